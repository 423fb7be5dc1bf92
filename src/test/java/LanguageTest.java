import java.io.IOException;
import java.lang.reflect.Field;
import java.lang.reflect.Method;
import java.lang.reflect.Modifier;
import java.nio.file.Files;
import java.nio.file.Path;
import java.util.Map;
import java.util.Set;
import java.util.TreeMap;
import java.util.TreeSet;
import java.util.regex.Matcher;
import java.util.regex.Pattern;

/**
 * The rules of LANGUAGE.md that can be seen from the class and from its source. Some are looked at
 * in a stricter form, which the class happens to keep and which is easier to see: loops are all of
 * one shape, arrays are made in the fields' initialisers alone.
 */
public final class LanguageTest {
    private static final String NUMBER = "(?:int|long|short|byte|char|boolean)";

    private final String code;
    private final Map<String, String> bodies = new TreeMap<>();

    private LanguageTest(String source) {
        code = source.replaceAll("//[^\n]*", "").replaceAll("(?s)/\\*.*?\\*/", "");
        Matcher m = Pattern.compile("(?ms)^    (?:public|private)(?: static)? (?:void |" + NUMBER + " )?(\\w+)"
                + "\\([^)]*\\) (\\{.*?^    \\}$)").matcher(code);
        while (m.find()) {
            String earlier = bodies.put(m.group(1), m.group(2));
            Due.due("methods with the name " + m.group(1) + " (more than one)", earlier == null, true);
        }
    }

    public static void main(String[] args) throws IOException {
        LanguageTest test = new LanguageTest(Files.readString(Path.of("src/main/java/FibreDesk.java")));
        test.everyMethodIsFound();
        test.fields();
        test.methods();
        test.barredWords();
        test.arrays();
        test.loops();
        test.callsInArguments();
        test.depth();
        Due.end();
    }

    /** The other looks are worth something only if the source was read whole. */
    private void everyMethodIsFound() {
        Set<String> want = new TreeSet<>(Set.of("FibreDesk"));
        for (Method m : FibreDesk.class.getDeclaredMethods()) {
            want.add(m.getName());
        }
        Due.due("methods found in the source " + bodies.keySet(), bodies.keySet().equals(want), true);
    }

    /** Rules 2, 4, 5, 10. */
    private void fields() {
        int count = 0;
        for (Field f : FibreDesk.class.getDeclaredFields()) {
            Class<?> type = f.getType();
            boolean isFinal = Modifier.isFinal(f.getModifiers());
            if (Modifier.isStatic(f.getModifiers())) {
                Due.due("static field " + f.getName(), isFinal && (type == int.class || type == long.class), true);
                continue;
            }
            count++;
            Due.due("type of field " + f.getName(), isAllowed(type), true);
            Due.due("array field " + f.getName() + " is final", !type.isArray() || isFinal, true);
        }
        Due.due("fields beside the constants: " + count, count <= 40, true);
        Due.due("a static initialiser", Pattern.compile("\\bstatic\\s*\\{").matcher(code).find(), false);
    }

    /** Rules 2, 4, 10. */
    private void methods() {
        for (Method m : FibreDesk.class.getDeclaredMethods()) {
            Class<?> answer = m.getReturnType();
            Due.due("answer of " + m.getName(), answer == void.class || answer.isPrimitive() && isAllowed(answer), true);
            Due.due("parameters of " + m.getName(), m.getParameterCount() <= 7, true);
            for (Class<?> type : m.getParameterTypes()) {
                Due.due("type of a parameter of " + m.getName(), isAllowed(type), true);
            }
        }
        for (Map.Entry<String, String> method : bodies.entrySet()) {
            long lines = method.getValue().lines().count();
            Due.due("lines of " + method.getKey() + ": " + lines, lines <= 60, true);
        }
    }

    private static boolean isAllowed(Class<?> type) {
        Class<?> one = type.isArray() ? type.getComponentType() : type;
        return one.isPrimitive() && one != float.class && one != double.class && one != void.class;
    }

    /** Rules 1, 2, 3, 6. */
    private void barredWords() {
        Matcher m = Pattern.compile("\\b(import|package|throw|throws|try|catch|finally|synchronized|assert|instanceof"
                + "|null|float|double|var|String|System|Math|Integer|Arrays|Object|class\\s+(?!FibreDesk)\\w+|enum|record"
                + "|interface|hashCode|equals|toString|getClass|notify|notifyAll|wait|clone|finalize)\\b"
                + "|->|::|\"").matcher(code);
        Due.due(m.find() ? "barred: " + m.group() : "barred words", m.reset().find(), false);
    }

    /** Rule 4: nothing is made but arrays, and these in the fields' initialisers, with a constant as length. */
    private void arrays() {
        Matcher made = Pattern.compile("\\bnew\\b").matcher(code);
        Matcher allowed = Pattern.compile("(?m)^    private final " + NUMBER + "\\[\\] \\w+ = new " + NUMBER
                + "\\[[A-Z_]+\\];$").matcher(code);
        Due.due("what is made, beside arrays in the fields' initialisers",
                made.results().count() - allowed.results().count(), 0);
    }

    /** Rule 8: each loop counts up to a bound, and nothing in it changes the counter. */
    private void loops() {
        Due.due("loops without a counter", Pattern.compile("\\b(while|do)\\b").matcher(code).find(), false);
        long fors = Pattern.compile("\\bfor\\b").matcher(code).results().count();
        Matcher m = Pattern.compile("\\bfor (\\(int (\\w+) = \\d+; \\2 < [^;=]+; \\2\\+\\+\\)) \\{").matcher(code);
        long seen = 0;
        while (m.find()) {
            seen++;
            String body = code.substring(m.end() - 1, closing(m.end() - 1, '{', '}'));
            String change = "\\b" + m.group(2) + "\\s*(=[^=]|[-+*/%&|^]=|\\+\\+|--)|(\\+\\+|--)" + m.group(2) + "\\b";
            Due.due("what changes the counter of " + m.group(1), Pattern.compile(change).matcher(body).find(), false);
        }
        Due.due("loops whose end can be seen", seen, fors);
    }

    /** Rule 10. */
    private void callsInArguments() {
        for (String name : bodies.keySet()) {
            Matcher m = Pattern.compile("\\b" + name + "\\(").matcher(code);
            while (m.find()) {
                String arguments = code.substring(m.end(), closing(m.end() - 1, '(', ')'));
                Due.due("a call in " + name + "(" + arguments + ")", arguments.contains("("), false);
            }
        }
    }

    /** Where the bracket that opens at a place is closed. */
    private int closing(int from, char opens, char closes) {
        int open = 0;
        for (int i = from; i < code.length(); i++) {
            open += code.charAt(i) == opens ? 1 : code.charAt(i) == closes ? -1 : 0;
            if (open == 0) {
                return i;
            }
        }
        throw new IllegalStateException("a bracket is not closed");
    }

    /** Rules 8 and 10: a method that calls itself, directly or not, would have no depth. */
    private void depth() {
        for (String name : bodies.keySet()) {
            int depth = depthOf(name, 1);
            Due.due("calls from " + name + ", deep: " + depth, depth <= 6, true);
        }
    }

    private int depthOf(String name, int above) {
        int deepest = above;
        for (String called : bodies.keySet()) {
            boolean calls = Pattern.compile("\\b" + called + "\\(").matcher(bodies.get(name)).find();
            if (calls && above < 20) {
                deepest = Math.max(deepest, depthOf(called, above + 1));
            }
        }
        return deepest;
    }
}
