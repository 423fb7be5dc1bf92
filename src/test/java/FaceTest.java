import java.io.IOException;
import java.lang.reflect.Constructor;
import java.lang.reflect.Field;
import java.lang.reflect.Method;
import java.lang.reflect.Modifier;
import java.nio.file.Files;
import java.nio.file.Path;
import java.util.Set;
import java.util.TreeSet;
import java.util.regex.Matcher;
import java.util.regex.Pattern;

/** The public face of the document, and the rules of LANGUAGE.md that can be seen from outside. */
public final class FaceTest {
    public static void main(String[] args) throws IOException {
        constants();
        members();
        source();
        Due.end();
    }

    private static void constants() {
        Due.due("REFUSED", FibreDesk.REFUSED, -1);
        Due.due("NOTHING", FibreDesk.NOTHING, -1000000);
    }

    private static void members() {
        Set<String> visible = new TreeSet<>();
        Set<String> publicNames = new TreeSet<>();
        Set<String> privateNames = new TreeSet<>();
        for (Method m : FibreDesk.class.getDeclaredMethods()) {
            if (Modifier.isPrivate(m.getModifiers())) {
                privateNames.add(m.getName());
                Due.due(m.getName() + " has at most seven parameters", m.getParameterCount() <= 7, true);
                continue;
            }
            publicNames.add(m.getName());
            StringBuilder form = new StringBuilder(m.getReturnType() + " " + m.getName());
            for (Class<?> type : m.getParameterTypes()) {
                form.append(' ').append(type);
            }
            visible.add(Modifier.toString(m.getModifiers()) + " " + form);
        }
        for (Field f : FibreDesk.class.getDeclaredFields()) {
            int mods = f.getModifiers();
            if (!Modifier.isPrivate(mods)) {
                visible.add(Modifier.toString(mods) + " " + f.getType() + " " + f.getName());
            }
            boolean isConstant = Modifier.isFinal(mods) && (f.getType() == int.class || f.getType() == long.class);
            Due.due("static field " + f.getName(), !Modifier.isStatic(mods) || isConstant, true);
        }
        Set<String> want = Set.of(
                "public static final int REFUSED", "public static final int NOTHING",
                "public int code int int int int", "public int program int", "public boolean channel int int",
                "public boolean slice int", "public int start int int", "public int run int", "public int state int",
                "public int of int int", "public int row int", "public int carrier int", "public int held int int",
                "public int waits int int", "public int out int", "public int time");
        Due.due("the face " + visible, visible.equals(want), true);
        privateNames.retainAll(publicNames);
        Due.due("private names that are public ones " + privateNames, privateNames.size(), 0);
        Constructor<?>[] made = FibreDesk.class.getDeclaredConstructors();
        Due.due("constructors", made.length, 1);
        Due.due("the constructor is public", Modifier.isPublic(made[0].getModifiers()), true);
        Due.due("the class is public and final", FibreDesk.class.getModifiers(), Modifier.PUBLIC | Modifier.FINAL);
        Due.due("nested classes", FibreDesk.class.getDeclaredClasses().length, 0);
    }

    private static void source() throws IOException {
        String text = Files.readString(Path.of("src/main/java/FibreDesk.java"));
        String code = text.replaceAll("//[^\n]*", "").replaceAll("(?s)/\\*.*?\\*/", "");
        String barred = "\\b(import|package|throw|throws|try|catch|synchronized|assert|instanceof|null|float|double"
                + "|String|System|Math|Integer|Arrays|Object|class\\s+(?!FibreDesk)\\w+|enum|record|interface)\\b|->|::|\"";
        Matcher found = Pattern.compile(barred).matcher(code);
        Due.due("barred words", found.find(), false);
        Matcher others = Pattern.compile("\\bnew\\b(?! (int|long|short|byte|char|boolean)\\[[^\\]]+\\];)").matcher(code);
        Due.due("what is made and is no array of numbers", others.find(), false);
    }
}
