import java.lang.reflect.Constructor;
import java.lang.reflect.Field;
import java.lang.reflect.Method;
import java.lang.reflect.Modifier;
import java.util.Arrays;
import java.util.Set;
import java.util.TreeSet;

/** The public face: every member of the document, and no other that is not private. */
public final class FaceTest {
    public static void main(String[] args) {
        Due check = new Due();
        check.sentence("The public face: every member, and none that it does not have");
        Set<String> got = new TreeSet<>();
        for (Method m : KernelText.class.getDeclaredMethods()) {
            if (!Modifier.isPrivate(m.getModifiers()) && !m.isSynthetic()) {
                String given = Arrays.toString(m.getParameterTypes());
                got.add(Modifier.toString(m.getModifiers()) + " " + m.getReturnType() + " " + m.getName() + given);
            }
        }
        for (Constructor<?> c : KernelText.class.getDeclaredConstructors()) {
            got.add(Modifier.toString(c.getModifiers()) + " new" + Arrays.toString(c.getParameterTypes()));
        }
        for (Field f : KernelText.class.getDeclaredFields()) {
            if (!Modifier.isPrivate(f.getModifiers())) {
                got.add(Modifier.toString(f.getModifiers()) + " " + f.getType() + " " + f.getName());
            }
        }
        Set<String> want = new TreeSet<>(Set.of(
            "public static final int NONE",
            "public new[]",
            "public boolean type[long, int]",
            "public int compile[]",
            "public int fault[int]",
            "public boolean set[int, long]",
            "public long word[int]",
            "public int letter[int, int]",
            "public int name[long]",
            "public int way[int, int]",
            "public boolean reached[int]",
            "public boolean live[int, int]",
            "public int meet[int]",
            "public int total[int]"));
        check.due("the face", String.join("\n", got), String.join("\n", want));
        check.due("the class", Modifier.toString(KernelText.class.getModifiers()), "public final");

        check.sentence("the public face: throws IllegalArgumentException, NoSuchElementException");
        for (Method m : KernelText.class.getDeclaredMethods()) {
            check.due(m.getName(), Arrays.toString(m.getExceptionTypes()), thrownBy(m.getName()));
        }
        inside(check);
        check.end();
    }

    private static String thrownBy(String name) {
        switch (name) {
            case "compile":
                return "[class java.lang.IllegalArgumentException]";
            case "word":
            case "name":
                return "[class java.util.NoSuchElementException]";
            default:
                return "[]";
        }
    }

    /** What ../shared/LANGUAGE.md asks of classes and can be seen of them. */
    private static void inside(Due check) {
        check.sentence("the classes inside it, which are private or package-visible and static");
        Set<String> open = new TreeSet<>();
        for (Method m : KernelText.class.getDeclaredMethods()) {
            open.add(m.getName());
        }
        Class<?>[] inside = KernelText.class.getDeclaredClasses();
        for (Class<?> c : inside) {
            int how = c.getModifiers();
            check.due(c + " is static", Modifier.isStatic(how), true);
            check.due(c + " can be seen", Modifier.isPublic(how) || Modifier.isProtected(how), false);
            int fields = 0;
            for (Field f : c.getDeclaredFields()) {
                fields += Modifier.isStatic(f.getModifiers()) ? 0 : 1;
                boolean kept = Modifier.isStatic(f.getModifiers()) && !Modifier.isFinal(f.getModifiers());
                check.due(c + " keeps " + f.getName() + " for all", kept, false);
            }
            check.due(c + " has some twenty fields at most", fields <= 20, true);
            for (Method m : c.getDeclaredMethods()) {
                boolean same = Modifier.isPrivate(m.getModifiers()) && open.contains(m.getName());
                check.due("a private method has the public name " + m.getName(), same, false);
                check.due(m.getName() + " takes seven at most", m.getParameterCount() <= 7, true);
            }
        }
        check.due("some twelve classes at most", inside.length <= 11, true);
    }
}
