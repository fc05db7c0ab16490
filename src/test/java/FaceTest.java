import java.lang.reflect.Constructor;
import java.lang.reflect.Field;
import java.lang.reflect.Method;
import java.lang.reflect.Modifier;
import java.util.Set;
import java.util.TreeSet;

/** The public face of the document, and nothing else that can be seen from outside. */
public final class FaceTest {
    private static final Set<String> FACE = Set.of(
            "feed(int,int,int,int,int)void IllegalStateException",
            "end(int)void IllegalArgumentException",
            "alter(int,int)void IndexOutOfBoundsException IllegalArgumentException",
            "length()int",
            "byteAt(int)int IndexOutOfBoundsException",
            "type(int)int IllegalArgumentException IllegalStateException",
            "erase()void",
            "add()int IllegalArgumentException IllegalStateException",
            "addPacked(int,int)int IllegalArgumentException IllegalStateException",
            "remove(int)void IndexOutOfBoundsException",
            "move(int,int)void IndexOutOfBoundsException",
            "find()int",
            "about(int,int)int IndexOutOfBoundsException IllegalArgumentException",
            "name(int,int)int IndexOutOfBoundsException",
            "part(int,int)int IndexOutOfBoundsException",
            "write()int IllegalStateException",
            "read(int)int IllegalArgumentException",
            "blame(int)int IllegalArgumentException",
            "count()int");

    private FaceTest() {
    }

    public static void main(String[] args) {
        Due.is("NONE", PartBox.NONE, -1);
        Due.is("public and final", PartBox.class.getModifiers(), Modifier.PUBLIC | Modifier.FINAL);
        methods();
        constructors();
        fields();
        innerClasses();
        Due.finish();
    }

    private static void methods() {
        Set<String> missing = new TreeSet<>(FACE);
        for (Method method : PartBox.class.getDeclaredMethods()) {
            if (method.getModifiers() == Modifier.PUBLIC) {
                Due.is("face has " + shape(method), missing.remove(shape(method)) ? 1 : 0, 1);
            } else if (!method.isSynthetic()) {
                Due.is("private: " + method, Modifier.isPrivate(method.getModifiers()) ? 1 : 0, 1);
                Due.is("own name: " + method, isFaceName(method.getName()) ? 1 : 0, 0);
            }
        }
        Due.is("missing " + missing, missing.size(), 0);
    }

    private static boolean isFaceName(String name) {
        return FACE.stream().anyMatch(face -> face.startsWith(name + "("));
    }

    private static String shape(Method method) {
        StringBuilder shape = new StringBuilder(method.getName()).append('(');
        String comma = "";
        for (Class<?> parameter : method.getParameterTypes()) {
            shape.append(comma).append(parameter.getName());
            comma = ",";
        }
        shape.append(')').append(method.getReturnType().getName());
        for (Class<?> thrown : method.getExceptionTypes()) {
            shape.append(' ').append(thrown.getSimpleName());
        }
        return shape.toString();
    }

    private static void constructors() {
        Constructor<?>[] all = PartBox.class.getDeclaredConstructors();
        Due.is("constructors", all.length, 1);
        Due.is("its parameters", all[0].getParameterCount(), 0);
        Due.is("it is public", all[0].getModifiers(), Modifier.PUBLIC);
    }

    private static void fields() {
        for (Field field : PartBox.class.getDeclaredFields()) {
            int modifiers = field.getModifiers();
            boolean isNone = field.getName().equals("NONE");
            Due.is("seen: " + field, Modifier.isPrivate(modifiers) ? 0 : 1, isNone ? 1 : 0);
            Due.is("static is final: " + field, Modifier.isStatic(modifiers) && !Modifier.isFinal(modifiers) ? 1 : 0, 0);
        }
    }

    private static void innerClasses() {
        for (Class<?> inner : PartBox.class.getDeclaredClasses()) {
            int modifiers = inner.getModifiers();
            Due.is("static: " + inner, Modifier.isStatic(modifiers) ? 1 : 0, 1);
            Due.is("not public: " + inner, modifiers & (Modifier.PUBLIC | Modifier.PROTECTED), 0);
            for (Method method : inner.getDeclaredMethods()) {
                Due.is("own name: " + method, isFaceName(method.getName()) ? 1 : 0, 0);
            }
        }
    }
}
