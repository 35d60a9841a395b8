import java.lang.reflect.Constructor;
import java.lang.reflect.Field;
import java.lang.reflect.Method;
import java.lang.reflect.Modifier;
import java.util.Arrays;
import java.util.Set;
import java.util.TreeSet;

/** The public face: every member of the document, and no other that is not private. */
public final class FaceTest {
    public static void main(String[] args) {
        Due check = new Due();
        Set<String> got = new TreeSet<>();
        for (Method m : KernelText.class.getDeclaredMethods()) {
            if (!Modifier.isPrivate(m.getModifiers()) && !m.isSynthetic()) {
                String given = Arrays.toString(m.getParameterTypes());
                got.add(Modifier.toString(m.getModifiers()) + " " + m.getReturnType() + " " + m.getName() + given);
            }
        }
        for (Constructor<?> c : KernelText.class.getDeclaredConstructors()) {
            got.add(Modifier.toString(c.getModifiers()) + " new" + Arrays.toString(c.getParameterTypes()));
        }
        for (Field f : KernelText.class.getDeclaredFields()) {
            if (!Modifier.isPrivate(f.getModifiers())) {
                got.add(Modifier.toString(f.getModifiers()) + " " + f.getType() + " " + f.getName());
            }
        }
        Set<String> want = new TreeSet<>(Set.of(
            "public static final int NONE",
            "public new[]",
            "public boolean type[long, int]",
            "public int compile[]",
            "public int fault[int]",
            "public boolean set[int, long]",
            "public long word[int]",
            "public int letter[int, int]",
            "public int name[long]",
            "public int way[int, int]",
            "public boolean reached[int]",
            "public boolean live[int, int]",
            "public int meet[int]",
            "public int total[int]"));
        check.due("the face", String.join("\n", got), String.join("\n", want));
        check.due("the class", Modifier.toString(KernelText.class.getModifiers()), "public final");
        check.end();
    }
}
