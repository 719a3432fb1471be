import java.lang.reflect.Constructor;
import java.lang.reflect.Field;
import java.lang.reflect.Method;
import java.lang.reflect.Modifier;
import java.util.TreeSet;

/** The public face: the document's members and no other that can be seen from outside. */
public final class FaceTest {
    public static void main(String[] args) {
        TreeSet<String> want = new TreeSet<>();
        want.add("public static final int HyphenBook.NONE");
        want.add("public HyphenBook()");
        want.add("public boolean HyphenBook.put(long,int)");
        want.add("public int HyphenBook.pattern() throws java.lang.IllegalArgumentException,java.lang.IllegalStateException");
        want.add("public int HyphenBook.exception() throws java.lang.IllegalArgumentException,java.lang.IllegalStateException");
        want.add("public long HyphenBook.word() throws java.lang.IllegalArgumentException");
        want.add("public boolean HyphenBook.least(int,int)");
        want.add("public int HyphenBook.value(int)");
        want.add("public int HyphenBook.count(int)");
        TreeSet<String> got = face();
        Check.due("the face is " + got + " and not " + want + ": alike", got.equals(want), true);
        Check.due("public and final", HyphenBook.class.getModifiers(), Modifier.PUBLIC | Modifier.FINAL);
        Check.due("NONE", HyphenBook.NONE, -1);
        Check.end();
    }

    private static TreeSet<String> face() {
        TreeSet<String> face = new TreeSet<>();
        for (Field field : HyphenBook.class.getDeclaredFields()) {
            if (!Modifier.isPrivate(field.getModifiers())) {
                face.add(field.toString());
            }
        }
        for (Constructor<?> constructor : HyphenBook.class.getDeclaredConstructors()) {
            if (!Modifier.isPrivate(constructor.getModifiers())) {
                face.add(constructor.toString());
            }
        }
        for (Method method : HyphenBook.class.getDeclaredMethods()) {
            if (!Modifier.isPrivate(method.getModifiers())) {
                face.add(method.toString());
            }
        }
        return face;
    }
}
