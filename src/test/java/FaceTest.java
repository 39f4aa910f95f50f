import java.lang.reflect.Constructor;
import java.lang.reflect.Field;
import java.lang.reflect.Method;
import java.lang.reflect.Modifier;
import java.util.Arrays;
import java.util.TreeSet;

/** The public face is the document's, with its exceptions, and nothing else of the class is seen. */
public final class FaceTest {
    private static final String[] FACE = {
        "int sample(double) throws IllegalArgumentException IllegalStateException",
        "boolean linear(boolean)",
        "int encode() throws IllegalStateException IndexOutOfBoundsException",
        "int decode() throws NoSuchElementException IllegalStateException",
        "double out(boolean,int) throws IndexOutOfBoundsException",
        "int code(int) throws IllegalArgumentException",
        "int stream(int) throws IndexOutOfBoundsException",
        "int damage(int,int) throws IllegalArgumentException IndexOutOfBoundsException",
        "int cut(int) throws IllegalArgumentException",
        "int reset()",
        "double apart() throws IllegalStateException",
        "int count(int) throws IllegalArgumentException",
    };

    public static void main(String[] args) {
        Checks checks = new Checks();
        Class<?> c = VoiceForge.class;
        checks.due("modifiers", Modifier.toString(c.getModifiers()), "public final");
        TreeSet<String> seen = new TreeSet<>();
        for (Method m : c.getDeclaredMethods()) {
            if (!Modifier.isPrivate(m.getModifiers()) && !m.isSynthetic()) {
                checks.due(m.getName() + " is", Modifier.toString(m.getModifiers()), "public");
                seen.add(told(m));
            }
        }
        checks.due("methods", seen, new TreeSet<>(Arrays.asList(FACE)));
        checks.due("constructors", c.getDeclaredConstructors().length, 1);
        for (Constructor<?> made : c.getDeclaredConstructors()) {
            checks.due("constructor", made.toString(), "public VoiceForge()");
        }
        for (Field f : c.getDeclaredFields()) {
            checks.due("field " + f.getName() + " is private", Modifier.isPrivate(f.getModifiers()), true);
        }
        checks.end();
    }

    private static String told(Method m) {
        StringBuilder text = new StringBuilder();
        text.append(m.getReturnType().getSimpleName()).append(' ').append(m.getName()).append('(');
        for (Class<?> p : m.getParameterTypes()) {
            text.append(text.charAt(text.length() - 1) == '(' ? "" : ",").append(p.getSimpleName());
        }
        text.append(')');
        for (Class<?> e : m.getExceptionTypes()) {
            text.append(text.indexOf("throws") < 0 ? " throws " : " ").append(e.getSimpleName());
        }
        return text.toString();
    }
}
