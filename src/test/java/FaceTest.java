import java.lang.reflect.Constructor;
import java.lang.reflect.Field;
import java.lang.reflect.Method;
import java.lang.reflect.Modifier;
import java.util.Set;
import java.util.TreeSet;

/** The class has the document's face, and no other member that can be seen from outside. */
public final class FaceTest {
    public static void main(String[] args) {
        Check check = new Check();
        check.due("the class is final", Modifier.isFinal(RecalcSheet.class.getModifiers()), true);
        check.due("the class is public", Modifier.isPublic(RecalcSheet.class.getModifiers()), true);
        check.due("the face", seen(), new TreeSet<>(Set.of(
                "public static final int RecalcSheet.BAD",
                "public RecalcSheet()",
                "public int RecalcSheet.type(long,int)",
                "public int RecalcSheet.wipe()",
                "public int RecalcSheet.enter(int)"
                        + " throws java.lang.IllegalArgumentException,java.lang.IllegalStateException",
                "public int RecalcSheet.clear(int) throws java.lang.IllegalArgumentException",
                "public int RecalcSheet.undo() throws java.util.NoSuchElementException",
                "public long RecalcSheet.value(int)"
                        + " throws java.lang.IllegalArgumentException,java.lang.ArithmeticException",
                "public int RecalcSheet.kind(int)",
                "public int RecalcSheet.content(int,int)",
                "public long RecalcSheet.refers(int)",
                "public int RecalcSheet.place(int)",
                "public int RecalcSheet.changed(int)",
                "public int RecalcSheet.worked()",
                "public int RecalcSheet.log()")));
        check.due("BAD", RecalcSheet.BAD, -1);
        check.end();
    }

    private static Set<String> seen() {
        Set<String> seen = new TreeSet<>();
        for (Field field : RecalcSheet.class.getDeclaredFields()) {
            if (!Modifier.isPrivate(field.getModifiers())) {
                seen.add(field.toString());
            }
        }
        for (Constructor<?> constructor : RecalcSheet.class.getDeclaredConstructors()) {
            if (!Modifier.isPrivate(constructor.getModifiers())) {
                seen.add(constructor.toString());
            }
        }
        for (Method method : RecalcSheet.class.getDeclaredMethods()) {
            if (!Modifier.isPrivate(method.getModifiers())) {
                seen.add(method.toString());
            }
        }
        return seen;
    }
}
