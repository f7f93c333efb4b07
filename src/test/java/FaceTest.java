import java.lang.reflect.Constructor;
import java.lang.reflect.Field;
import java.lang.reflect.Method;
import java.lang.reflect.Modifier;
import java.util.Arrays;
import java.util.Set;
import java.util.TreeSet;

/** The document's public face: every member of it, and no other that can be seen from outside. */
public final class FaceTest {
    private static final String[] METHODS = {
        "put 2", "delete 1", "rename 2", "rewrite 3", "advance 1", "take 1", "restore 1", "restoreFile 2",
        "pin 2", "forget 1", "prune 1", "points 0", "dayOf 1", "pinned 1", "there 2", "content 2",
        "liveThere 1", "live 1", "differing 2", "changedSince 1", "versions 1", "sum 1"};

    public static void main(String[] args) {
        Class<?> face = SyntheticChain.class;
        int modifiers = face.getModifiers();
        Due.is("public and final", Modifier.isPublic(modifiers) && Modifier.isFinal(modifiers) ? 1 : 0, 1);
        Due.is("nested classes", face.getDeclaredClasses().length, 0);
        constructor(face);
        fields(face);
        methods(face);
        Due.end();
    }

    private static void constructor(Class<?> face) {
        Constructor<?>[] all = face.getDeclaredConstructors();
        Due.is("constructors", all.length, 1);
        Due.is("parameters of the constructor", all[0].getParameterCount(), 0);
        Due.is("public constructor", Modifier.isPublic(all[0].getModifiers()) ? 1 : 0, 1);
    }

    private static void fields(Class<?> face) {
        for (Field field : face.getDeclaredFields()) {
            Due.is("private field " + field.getName(), Modifier.isPrivate(field.getModifiers()) ? 1 : 0, 1);
        }
    }

    private static void methods(Class<?> face) {
        Set<String> seen = new TreeSet<>();
        Set<String> hidden = new TreeSet<>();
        for (Method method : face.getDeclaredMethods()) {
            if (Modifier.isPrivate(method.getModifiers())) {
                hidden.add(method.getName());
                continue;
            }
            seen.add(method.getName() + " " + method.getParameterCount());
            boolean instance = method.getModifiers() == Modifier.PUBLIC;
            Due.is("public instance method " + method.getName(), instance ? 1 : 0, 1);
            Due.is("only ints in " + method.getName(), onlyInts(method) ? 1 : 0, 1);
        }
        Due.is("the face is " + seen, seen.equals(new TreeSet<>(Arrays.asList(METHODS))) ? 1 : 0, 1);
        for (String entry : METHODS) {
            String name = entry.substring(0, entry.indexOf(' '));
            Due.is("private methods named " + name, hidden.contains(name) ? 1 : 0, 0);
        }
    }

    private static boolean onlyInts(Method method) {
        return method.getReturnType() == int.class
            && Arrays.stream(method.getParameterTypes()).allMatch(type -> type == int.class);
    }
}
