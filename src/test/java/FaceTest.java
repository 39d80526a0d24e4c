import java.lang.reflect.Constructor;
import java.lang.reflect.Field;
import java.lang.reflect.Method;
import java.lang.reflect.Modifier;
import java.util.Arrays;
import java.util.Set;
import java.util.TreeSet;

/** The public face is the document's, and nothing else of the class can be seen from outside. */
public final class FaceTest {
    private static final Check check = new Check();
    private static final String[] METHODS = {
        "times 2", "over 2", "power 2", "log 1", "code 3", "generator 1", "put 2", "encode 0", "at 1", "lose 1",
        "syndrome 1", "repair 0", "changed 2", "block 4", "wipe 0", "lay 1", "sent 1", "damage 3", "mend 0", "wrong 0",
        "shares 2", "share 3", "drop 1", "made 2", "apart 0", "odd 0"
    };

    public static void main(String[] args) {
        Class<ReedSets> type = ReedSets.class;
        check.due("modifiers of the class", type.getModifiers(), Modifier.PUBLIC | Modifier.FINAL);
        methods(type);
        fields(type);
        Constructor<?>[] constructors = type.getDeclaredConstructors();
        check.due("constructors", constructors.length, 1);
        check.due("arguments of the constructor", constructors[0].getParameterCount(), 0);
        check.isTrue("the constructor is public", Modifier.isPublic(constructors[0].getModifiers()));
        nested(type);
        check.end();
    }

    private static void methods(Class<?> type) {
        Set<String> due = new TreeSet<>(Arrays.asList(METHODS));
        Set<String> names = new TreeSet<>();
        for (String one : METHODS) {
            names.add(one.substring(0, one.indexOf(' ')));
        }
        for (Method method : type.getDeclaredMethods()) {
            if (Modifier.isPrivate(method.getModifiers())) {
                check.isTrue("private " + method.getName() + " bears no public name", !names.contains(method.getName()));
                continue;
            }
            check.due("modifiers of " + method.getName(), method.getModifiers(), Modifier.PUBLIC);
            check.isTrue(method.getName() + " answers an int", method.getReturnType() == int.class);
            for (Class<?> parameter : method.getParameterTypes()) {
                check.isTrue(method.getName() + " takes ints", parameter == int.class);
            }
            String text = method.getName() + " " + method.getParameterCount();
            check.isTrue(text + " is in the document", due.remove(text));
        }
        check.isTrue("missing: " + due, due.isEmpty());
    }

    private static void fields(Class<?> type) {
        for (Field field : type.getDeclaredFields()) {
            int modifiers = field.getModifiers();
            if (field.getName().equals("NONE")) {
                check.due("modifiers of NONE", modifiers, Modifier.PUBLIC | Modifier.STATIC | Modifier.FINAL);
            } else {
                check.isTrue(field.getName() + " is private", Modifier.isPrivate(modifiers));
            }
            if (Modifier.isStatic(modifiers)) {
                check.isTrue(field.getName() + " is final", Modifier.isFinal(modifiers));
            }
        }
    }

    private static void nested(Class<?> type) {
        for (Class<?> inside : type.getDeclaredClasses()) {
            int modifiers = inside.getModifiers();
            check.isTrue(inside.getName() + " is static", Modifier.isStatic(modifiers));
            check.isTrue(inside.getName() + " is private", Modifier.isPrivate(modifiers));
        }
    }
}
