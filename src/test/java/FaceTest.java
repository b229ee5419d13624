import java.lang.reflect.Constructor;
import java.lang.reflect.Executable;
import java.lang.reflect.Field;
import java.lang.reflect.Method;
import java.lang.reflect.Modifier;
import java.util.Arrays;
import java.util.Set;
import java.util.TreeSet;

/** The public face is the document's, whole and alone. */
public final class FaceTest {
    private static final Checks CHECKS = new Checks();

    public static void main(String[] args) throws IllegalAccessException {
        CHECKS.words("public final class PackFrames { public static final int NONE = -1; public static final int FULL = -2; "
            + "public PackFrames();");
        CHECKS.due("the class is public and final",
            PackFrames.class.getModifiers(), Modifier.PUBLIC | Modifier.FINAL);
        CHECKS.due("constructors", Arrays.toString(PackFrames.class.getDeclaredConstructors()),
            "[public PackFrames()]");
        classesInsideAreStatic();
        methodsAreThose();
        fieldsAreThose();
        CHECKS.end();
    }

    private static void methodsAreThose() {
        CHECKS.words("public boolean write(int n, long bytes); public void clear(); public int content(int k); "
            + "public boolean put(int n, long bytes); public void wipe(); public int wire(int k); "
            + "public boolean spoil(int k, int bits); public int pack(boolean check); public boolean skip(int n); "
            + "public int unpack(); public int mark(); public int usual(int which, int s, int what);");
        Set<String> visible = new TreeSet<>();
        Set<String> hidden = new TreeSet<>();
        for (Method m : PackFrames.class.getDeclaredMethods()) {
            if (Modifier.isPrivate(m.getModifiers())) {
                hidden.add(m.getName());
            } else {
                visible.add(shape(m, m.getReturnType() + " " + m.getName()));
            }
        }
        Set<String> want = new TreeSet<>(Arrays.asList(
            "public boolean write[int, long]", "public void clear[]", "public int content[int]",
            "public boolean put[int, long]", "public void wipe[]", "public int wire[int]",
            "public boolean spoil[int, int]", "public int pack[boolean]", "public boolean skip[int]",
            "public int unpack[]", "public int mark[]", "public int usual[int, int, int]"));
        CHECKS.due("methods", visible.toString(), want.toString());
        for (Method m : PackFrames.class.getMethods()) {
            CHECKS.due("a private method is called " + m.getName(), hidden.contains(m.getName()), false);
        }
    }

    private static String shape(Executable e, String name) {
        return Modifier.toString(e.getModifiers()) + " " + name + Arrays.toString(e.getParameterTypes());
    }

    private static void fieldsAreThose() throws IllegalAccessException {
        CHECKS.words("`NONE = -1`: There is none, or it cannot be done. `FULL = -2`: There would be too many bytes.");
        Set<String> visible = new TreeSet<>();
        for (Field f : PackFrames.class.getDeclaredFields()) {
            if (!Modifier.isPrivate(f.getModifiers())) {
                visible.add(f + " = " + f.get(null));
            }
        }
        CHECKS.due("fields", visible.toString(), "[public static final int PackFrames.FULL = -2, "
            + "public static final int PackFrames.NONE = -1]");
    }

    private static void classesInsideAreStatic() {
        for (Class<?> inside : PackFrames.class.getDeclaredClasses()) {
            int kind = inside.getModifiers();
            CHECKS.due(inside + " is static", Modifier.isStatic(kind), true);
            CHECKS.due(inside + " is seen outside", Modifier.isPublic(kind) || Modifier.isProtected(kind), false);
            for (Constructor<?> c : inside.getDeclaredConstructors()) {
                CHECKS.due(c + " has seven parameters or fewer", c.getParameterCount() <= 7, true);
            }
        }
    }
}
