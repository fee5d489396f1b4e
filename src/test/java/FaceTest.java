import java.lang.reflect.Constructor;
import java.lang.reflect.Field;
import java.lang.reflect.Method;
import java.lang.reflect.Modifier;
import java.util.Arrays;
import java.util.Set;
import java.util.TreeSet;

/** The public face: every constant, constructor and method of the document, and no member more. */
public final class FaceTest {
    private static final String[] METHODS = {
        "boolean unlock 2 IllegalArgumentException",
        "boolean lock 1 IllegalArgumentException",
        "int put 3 IllegalArgumentException IllegalStateException",
        "int erase 2 IllegalArgumentException IllegalStateException",
        "int get 3 IllegalArgumentException IllegalStateException",
        "int change 2 IllegalArgumentException IllegalStateException",
        "boolean pull 1 IllegalArgumentException IllegalStateException",
        "int push 1 IllegalArgumentException IllegalStateException",
        "boolean deliver 1", "boolean drop 1", "int message 2", "int flight 0", "boolean forge 2", "boolean plant 1",
        "int build 3", "int leak 1", "int steal 1", "boolean known 1", "int term 2", "int atom 1", "int device 2",
        "int server 0"};

    public static void main(String[] args) {
        Checks checks = new Checks();
        checks.about("the face");
        checks.due("the class is public and final",
                VaultDevices.class.getModifiers() == (Modifier.PUBLIC | Modifier.FINAL), true);
        methods(checks);
        fields(checks);
        Constructor<?>[] constructors = VaultDevices.class.getDeclaredConstructors();
        checks.due("one public constructor without parameters", constructors.length == 1
                && constructors[0].getModifiers() == Modifier.PUBLIC && constructors[0].getParameterCount() == 0, true);
        checks.due("NONE", VaultDevices.NONE, -1);
        checks.due("FULL", VaultDevices.FULL, -2);
        checks.end();
    }

    private static void methods(Checks checks) {
        Set<String> there = new TreeSet<>();
        Set<String> hidden = new TreeSet<>();
        for (Method m : VaultDevices.class.getDeclaredMethods()) {
            if (Modifier.isPrivate(m.getModifiers())) {
                hidden.add(m.getName());
            } else {
                checks.due(m.getName() + " is public and no more", m.getModifiers() == Modifier.PUBLIC, true);
                there.add(describe(m));
            }
        }
        Set<String> due = new TreeSet<>(Arrays.asList(METHODS));
        if (!there.equals(due)) {
            checks.tell("the methods are " + there + ", due is " + due);
        }
        for (String line : METHODS) {
            checks.due("a private method bears the name of " + line, hidden.contains(line.split(" ")[1]), false);
        }
    }

    private static String describe(Method m) {
        StringBuilder text = new StringBuilder();
        text.append(m.getReturnType().getName()).append(' ').append(m.getName()).append(' ').append(m.getParameterCount());
        for (Class<?> parameter : m.getParameterTypes()) {
            if (parameter != int.class) {
                text.append(" (").append(parameter.getName()).append(')');
            }
        }
        for (Class<?> thrown : m.getExceptionTypes()) {
            text.append(' ').append(thrown.getSimpleName());
        }
        return text.toString();
    }

    private static void fields(Checks checks) {
        for (Field f : VaultDevices.class.getDeclaredFields()) {
            boolean constant = f.getName().equals("NONE") || f.getName().equals("FULL");
            checks.due("field " + f.getName() + " is hidden unless it is a constant of the document",
                    Modifier.isPrivate(f.getModifiers()), !constant);
            checks.due("field " + f.getName() + " is final if it is static",
                    !Modifier.isStatic(f.getModifiers()) || Modifier.isFinal(f.getModifiers()), true);
        }
    }
}
