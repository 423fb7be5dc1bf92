import java.lang.reflect.Constructor;
import java.lang.reflect.Field;
import java.lang.reflect.Method;
import java.lang.reflect.Modifier;
import java.util.Set;
import java.util.TreeSet;

/** The public face of the document, and nothing beside it (LANGUAGE.md, rule 1). */
public final class FaceTest {
    public static void main(String[] args) {
        constants();
        members();
        Due.end();
    }

    private static void constants() {
        Due.due("REFUSED", FibreDesk.REFUSED, -1);
        Due.due("NOTHING", FibreDesk.NOTHING, -1000000);
    }

    private static void members() {
        Set<String> visible = new TreeSet<>();
        Set<String> publicNames = new TreeSet<>();
        Set<String> privateNames = new TreeSet<>();
        for (Method m : FibreDesk.class.getDeclaredMethods()) {
            if (Modifier.isPrivate(m.getModifiers())) {
                privateNames.add(m.getName());
                continue;
            }
            publicNames.add(m.getName());
            StringBuilder form = new StringBuilder(m.getReturnType() + " " + m.getName());
            for (Class<?> type : m.getParameterTypes()) {
                form.append(' ').append(type);
            }
            visible.add(Modifier.toString(m.getModifiers()) + " " + form);
        }
        for (Field f : FibreDesk.class.getDeclaredFields()) {
            int mods = f.getModifiers();
            if (!Modifier.isPrivate(mods)) {
                visible.add(Modifier.toString(mods) + " " + f.getType() + " " + f.getName());
            }
        }
        Set<String> want = Set.of(
                "public static final int REFUSED", "public static final int NOTHING",
                "public int code int int int int", "public int program int", "public boolean channel int int",
                "public boolean slice int", "public int start int int", "public int run int", "public int state int",
                "public int of int int", "public int row int", "public int carrier int", "public int held int int",
                "public int waits int int", "public int out int", "public int time");
        Due.due("the face " + visible, visible.equals(want), true);
        privateNames.retainAll(publicNames);
        Due.due("private names that are public ones " + privateNames, privateNames.size(), 0);
        Constructor<?>[] made = FibreDesk.class.getDeclaredConstructors();
        Due.due("constructors", made.length, 1);
        Due.due("the constructor is public", Modifier.isPublic(made[0].getModifiers()), true);
        Due.due("the class is public and final", FibreDesk.class.getModifiers(), Modifier.PUBLIC | Modifier.FINAL);
        Due.due("nested classes", FibreDesk.class.getDeclaredClasses().length, 0);
    }
}
