import java.lang.reflect.Constructor;
import java.lang.reflect.Field;
import java.lang.reflect.Method;
import java.lang.reflect.Modifier;
import java.util.Arrays;
import java.util.TreeSet;

/** The class has the document's face and shows nothing else. */
public final class FaceTest {
    public static void main(String[] args) {
        Due.sentence("The public face");
        Due.is("the class is public and final", StripeField.class.getModifiers(), Modifier.PUBLIC | Modifier.FINAL);
        TreeSet<String> methods = new TreeSet<>();
        for (Method method : StripeField.class.getDeclaredMethods()) {
            if (!Modifier.isPrivate(method.getModifiers())) {
                methods.add(told(method));
            }
        }
        Due.is("methods", String.join("\n", methods), String.join("\n", new TreeSet<>(Arrays.asList(
            "int feed[int, long] IllegalArgumentException IllegalStateException",
            "boolean write[int] IllegalArgumentException IllegalStateException",
            "long read[int, int] IllegalArgumentException IllegalStateException",
            "void lose[int] IllegalArgumentException",
            "void off[] IllegalStateException",
            "boolean open[] IllegalStateException",
            "boolean fail[int] IllegalArgumentException",
            "boolean replace[int] IllegalArgumentException",
            "boolean spoil[int, int, int, int, long] IllegalArgumentException",
            "int rebuild[] IllegalStateException",
            "int copyBack[] IllegalStateException",
            "int scrub[] IllegalStateException",
            "int look[int] IllegalArgumentException",
            "int place[int, int] IllegalArgumentException"))));
        for (Field field : StripeField.class.getDeclaredFields()) {
            Due.is("field " + field.getName() + " is private", Modifier.isPrivate(field.getModifiers()), true);
        }
        Constructor<?>[] constructors = StripeField.class.getDeclaredConstructors();
        Due.is("constructors", constructors.length, 1);
        Due.is("its parameters", Arrays.toString(constructors[0].getParameterTypes()), "[int, int, int]");
        Due.is("it is public", Modifier.isPublic(constructors[0].getModifiers()), true);
        for (Class<?> inner : StripeField.class.getDeclaredClasses()) {
            Due.is(inner.getName() + " is static", Modifier.isStatic(inner.getModifiers()), true);
            Due.is(inner.getName() + " is public", Modifier.isPublic(inner.getModifiers()), false);
        }
        Due.end();
    }

    private static String told(Method method) {
        StringBuilder text = new StringBuilder();
        text.append(method.getReturnType()).append(' ').append(method.getName());
        text.append(Arrays.toString(method.getParameterTypes()));
        for (Class<?> thrown : method.getExceptionTypes()) {
            text.append(' ').append(thrown.getSimpleName());
        }
        return text.toString();
    }
}
