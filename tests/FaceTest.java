import java.lang.reflect.Constructor;
import java.lang.reflect.Field;
import java.lang.reflect.Method;
import java.lang.reflect.Modifier;
import java.util.Arrays;
import java.util.Set;
import java.util.TreeSet;

/** The public face is the document's, and nothing else of the class can be seen. */
public final class FaceTest {
    private static final String[] FACE = {
        "clear() void", "feed(int,int,int,int,int) void", "end(int) int", "format(int,int,int,int) int IllegalArgumentException",
        "poke(int,int,int) boolean", "kind() int", "fault() int", "byteAt(int,int) int", "items() int IllegalStateException",
        "letter(int,int) int IllegalStateException IndexOutOfBoundsException",
        "about(int,int) long IllegalStateException IndexOutOfBoundsException IllegalArgumentException",
        "content(int,int) int IllegalStateException IndexOutOfBoundsException",
        "enter(int) int IllegalStateException IndexOutOfBoundsException IllegalArgumentException",
        "up() boolean IllegalStateException",
        "make(boolean) int IllegalStateException IllegalArgumentException UnsupportedOperationException",
        "write(int) int IllegalStateException IndexOutOfBoundsException IllegalArgumentException UnsupportedOperationException",
        "grow(int,int,int) int IllegalStateException IndexOutOfBoundsException IllegalArgumentException"
                + " UnsupportedOperationException",
        "cut(int,int) int IllegalStateException IndexOutOfBoundsException IllegalArgumentException",
        "remove(int) void IllegalStateException IndexOutOfBoundsException IllegalArgumentException",
        "stamp(int,int,int,int) void IllegalStateException IndexOutOfBoundsException IllegalArgumentException",
        "plan(int,int) int", "target(int,int) int", "fail(int,int) boolean",
        "run(int,int) int IllegalStateException IllegalArgumentException"};

    public static void main(String[] args) {
        Class<?> type = VolumeTurner.class;
        Set<String> seen = new TreeSet<>();
        Set<String> publicNames = new TreeSet<>();
        for (Method m : type.getDeclaredMethods()) {
            if (Modifier.isPublic(m.getModifiers())) {
                seen.add(text(m));
                publicNames.add(m.getName());
            } else {
                Due.is(m.getName() + " is private", Modifier.isPrivate(m.getModifiers()), true);
            }
        }
        Due.is("face", seen.toString(), new TreeSet<>(Arrays.asList(FACE)).toString());
        for (Field f : type.getDeclaredFields()) {
            boolean isNone = f.getName().equals("NONE") && Modifier.isPublic(f.getModifiers());
            Due.is(f.getName() + " is private", isNone || Modifier.isPrivate(f.getModifiers()), true);
            boolean isStatic = Modifier.isStatic(f.getModifiers());
            Due.is(f.getName() + " does not change", !isStatic || Modifier.isFinal(f.getModifiers()), true);
        }
        for (Constructor<?> c : type.getDeclaredConstructors()) {
            Due.is("constructor", Arrays.toString(c.getParameterTypes()), "[int]");
        }
        for (Class<?> inside : type.getDeclaredClasses()) {
            Due.is(inside.getName() + " is static", Modifier.isStatic(inside.getModifiers()), true);
            for (Method m : inside.getDeclaredMethods()) {
                Due.is(m.getName() + " bears a name of the face", publicNames.contains(m.getName()), false);
            }
        }
        for (Method m : type.getDeclaredMethods()) {
            boolean hides = !Modifier.isPublic(m.getModifiers()) && publicNames.contains(m.getName());
            Due.is(m.getName() + " bears a name of the face", hides, false);
        }
        Due.is("final", Modifier.isFinal(type.getModifiers()), true);
        Due.finish();
    }

    private static String text(Method m) {
        StringBuilder b = new StringBuilder(m.getName()).append('(');
        for (int i = 0; i < m.getParameterCount(); i++) {
            b.append(i == 0 ? "" : ",").append(m.getParameterTypes()[i].getSimpleName());
        }
        b.append(") ").append(m.getReturnType().getSimpleName());
        for (Class<?> e : m.getExceptionTypes()) {
            b.append(' ').append(e.getSimpleName());
        }
        return b.toString();
    }
}
