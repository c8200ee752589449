import java.lang.reflect.Constructor;
import java.lang.reflect.Field;
import java.lang.reflect.Method;
import java.lang.reflect.Modifier;
import java.util.Arrays;
import java.util.List;
import java.util.Set;
import java.util.TreeSet;

/** The class shows the document's public face and nothing else, and its fields keep to LANGUAGE.md. */
public final class FaceTest {
    private static final Set<String> FACE = Set.of(
            "give/4", "chain/3", "body/2", "rule/1", "blank/0", "drop/1", "rules/0", "given/3", "holds/3",
            "size/1", "next/2", "fan/2", "ways/1", "supports/2", "weight/1", "within/2");
    private static final List<Class<?>> NUMBERS = List.of(
            int.class, long.class, short.class, byte.class, char.class, boolean.class);

    public static void main(String[] args) {
        classIsPublicAndFinal();
        constructorIsTheOneOfTheDocument();
        methodsAreThoseOfTheDocument();
        fieldsArePrivateNumbersAndArrays();
        Due.end();
    }

    private static void check(String what, boolean fine) {
        Due.due(what, fine ? 1 : 0, 1);
    }

    private static void classIsPublicAndFinal() {
        int modifiers = StratifiedRules.class.getModifiers();
        check("class is public and final", Modifier.isPublic(modifiers) && Modifier.isFinal(modifiers));
        check("no package", StratifiedRules.class.getPackageName().isEmpty());
        check("no nested class", StratifiedRules.class.getDeclaredClasses().length == 0);
    }

    private static void constructorIsTheOneOfTheDocument() {
        Constructor<?>[] all = StratifiedRules.class.getDeclaredConstructors();
        check("one constructor, public, without parameters",
                all.length == 1 && Modifier.isPublic(all[0].getModifiers()) && all[0].getParameterCount() == 0);
    }

    private static void methodsAreThoseOfTheDocument() {
        Set<String> open = new TreeSet<>();
        Set<String> hiddenNames = new TreeSet<>();
        for (Method method : StratifiedRules.class.getDeclaredMethods()) {
            check(method.getName() + " has at most seven parameters", method.getParameterCount() <= 7);
            if (Modifier.isPrivate(method.getModifiers())) {
                hiddenNames.add(method.getName());
            } else {
                open.add(method.getName() + "/" + method.getParameterCount());
                check(method.getName() + " is public over ints", isPublicOverInts(method));
            }
        }
        check("public methods " + open, open.equals(FACE));
        for (String method : FACE) {
            String name = method.substring(0, method.indexOf('/'));
            check("no private method named " + name, !hiddenNames.contains(name));
        }
    }

    private static boolean isPublicOverInts(Method method) {
        return Modifier.isPublic(method.getModifiers()) && !Modifier.isStatic(method.getModifiers())
                && method.getReturnType() == int.class
                && Arrays.stream(method.getParameterTypes()).allMatch(type -> type == int.class);
    }

    private static void fieldsArePrivateNumbersAndArrays() {
        for (Field field : StratifiedRules.class.getDeclaredFields()) {
            int modifiers = field.getModifiers();
            Class<?> type = field.getType();
            check(field.getName() + " is private", Modifier.isPrivate(modifiers));
            check(field.getName() + " is of a type allowed",
                    NUMBERS.contains(type) || type.isArray() && NUMBERS.contains(type.getComponentType()));
            if (Modifier.isStatic(modifiers)) {
                check(field.getName() + " is a constant",
                        Modifier.isFinal(modifiers) && (type == int.class || type == long.class));
            }
        }
    }
}
