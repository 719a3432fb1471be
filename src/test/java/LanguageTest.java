import java.lang.reflect.Constructor;
import java.lang.reflect.Executable;
import java.lang.reflect.Field;
import java.lang.reflect.Method;
import java.lang.reflect.Modifier;
import java.util.ArrayList;
import java.util.HashSet;
import java.util.List;
import java.util.Set;

/** Those rules of ../shared/LANGUAGE.md that can be seen in the compiled class. */
public final class LanguageTest {
    private static final Set<Class<?>> CONSTANTS = Set.of(int.class, long.class, boolean.class, char.class,
        String.class, int[].class, long[].class, char[].class, byte[].class);

    public static void main(String[] args) {
        List<Class<?>> classes = new ArrayList<>(List.of(HyphenBook.class));
        for (int i = 0; i < classes.size(); i++) {
            classes.addAll(List.of(classes.get(i).getDeclaredClasses()));
        }
        Check.due("rule 11: " + classes.size() + " classes are few enough", classes.size() <= 12, true);
        for (Class<?> each : classes) {
            fieldsAreAsAllowed(each);
            parametersAreFew(each);
            if (each != HyphenBook.class) {
                isHiddenInside(each);
            }
        }
        noPrivateMethodIsNamedAsAPublicOne();
        Check.end();
    }

    private static void isHiddenInside(Class<?> inner) {
        int modifiers = inner.getModifiers();
        boolean hidden = !Modifier.isPublic(modifiers) && !Modifier.isProtected(modifiers);
        Check.due("rule 1: " + inner + " is hidden", hidden, true);
        Check.due("rule 1: " + inner + " is static", Modifier.isStatic(modifiers), true);
    }

    private static void fieldsAreAsAllowed(Class<?> owner) {
        int ofObjects = 0;
        for (Field field : owner.getDeclaredFields()) {
            if (Modifier.isStatic(field.getModifiers())) {
                Check.due("rule 5: " + field + " is final", Modifier.isFinal(field.getModifiers()), true);
                Check.due("rule 5: " + field + " is a constant", CONSTANTS.contains(field.getType()), true);
            } else {
                ofObjects++;
            }
        }
        Check.due("rule 11: " + ofObjects + " fields of " + owner + " are few enough", ofObjects <= 20, true);
    }

    private static void parametersAreFew(Class<?> owner) {
        List<Executable> all = new ArrayList<>(List.<Executable>of(owner.getDeclaredMethods()));
        for (Constructor<?> constructor : owner.getDeclaredConstructors()) {
            all.add(constructor);
        }
        for (Executable each : all) {
            Check.due("rule 11: " + each + " has few parameters", each.getParameterCount() <= 7, true);
        }
    }

    private static void noPrivateMethodIsNamedAsAPublicOne() {
        Set<String> names = new HashSet<>();
        for (Method method : HyphenBook.class.getDeclaredMethods()) {
            if (Modifier.isPublic(method.getModifiers())) {
                names.add(method.getName());
            }
        }
        for (Method method : HyphenBook.class.getDeclaredMethods()) {
            if (Modifier.isPrivate(method.getModifiers())) {
                Check.due("rule 1: " + method + " has a public one's name", names.contains(method.getName()), false);
            }
        }
    }
}
