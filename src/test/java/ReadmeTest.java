import java.io.IOException;
import java.lang.reflect.Method;
import java.nio.file.DirectoryStream;
import java.nio.file.Files;
import java.nio.file.Path;
import java.util.ArrayList;
import java.util.List;
import java.util.Set;
import java.util.TreeSet;
import java.util.regex.Matcher;
import java.util.regex.Pattern;

/** What README.md shows of the class's use holds as it stands there. */
public final class ReadmeTest {
    private static final Pattern MADE =
            Pattern.compile("FibreDesk desk = new FibreDesk\\((-?\\d+)\\);(?:\\s+// .*)?");
    private static final Pattern CALL =
            Pattern.compile("desk\\.(\\w+)\\(([-\\d, ]*)\\);\\s+// (-?\\d+|true|false)(?:: .*)?");
    private static final Pattern INSTRUCTION =
            Pattern.compile("\\| (\\d+) \\| ([A-Z]+) \\| (\\S+) \\| (\\S+) \\| (\\S+) \\| .* \\|");

    public static void main(String[] args) throws IOException, ReflectiveOperationException {
        List<String> lines = Files.readAllLines(Path.of("README.md"));
        examples(lines);
        instructions(lines);
        namesEveryTest(String.join("\n", lines));
        Due.end();
    }

    /** Each block of Java makes an object in its first line; every other line is a call with its answer. */
    private static void examples(List<String> lines) throws ReflectiveOperationException {
        Set<String> called = new TreeSet<>();
        int blocks = 0;
        boolean inside = false;
        FibreDesk desk = null;
        for (int i = 0; i < lines.size(); i++) {
            String line = lines.get(i);
            String where = "README.md, line " + (i + 1) + ": " + line;
            if (!inside) {
                inside = line.equals("```java");
                desk = null;
                continue;
            }
            if (line.equals("```")) {
                inside = false;
                blocks++;
                continue;
            }
            Matcher made = MADE.matcher(line);
            if (made.matches() && desk == null) {
                desk = new FibreDesk(Integer.parseInt(made.group(1)));
                continue;
            }
            Matcher call = CALL.matcher(line);
            boolean isCall = call.matches() && desk != null;
            Due.due(where + " (has the form of a call with its answer)", isCall, true);
            if (isCall) {
                called.add(call.group(1));
                String answer = String.valueOf(answerOf(desk, call.group(1), call.group(2)));
                Due.due(where + " (answered " + answer + ")", answer.equals(call.group(3)), true);
            }
        }
        Due.due("the last block of README.md ends", inside, false);
        Due.due("README.md has examples", blocks > 0, true);
        for (Method m : FibreDesk.class.getDeclaredMethods()) {
            if (java.lang.reflect.Modifier.isPublic(m.getModifiers())) {
                Due.due("README.md shows a call of " + m.getName(), called.contains(m.getName()), true);
            }
        }
    }

    private static Object answerOf(FibreDesk desk, String name, String list) throws ReflectiveOperationException {
        List<Object> values = new ArrayList<>();
        List<Class<?>> types = new ArrayList<>();
        for (String part : list.isBlank() ? new String[0] : list.split(",")) {
            values.add(Integer.valueOf(part.trim()));
            types.add(int.class);
        }
        Method method = FibreDesk.class.getMethod(name, types.toArray(new Class<?>[0]));
        return method.invoke(desk, values.toArray());
    }

    /** What the table of instructions says of each operand is what code takes and refuses. */
    private static void instructions(List<String> lines) {
        int next = 0;
        for (String line : lines) {
            Matcher row = INSTRUCTION.matcher(line);
            if (!row.matches()) {
                continue;
            }
            int op = Integer.parseInt(row.group(1));
            Due.due("README.md's table of instructions: the op of " + line, op, next);
            next++;
            for (int operand = 0; operand < 3; operand++) {
                operand(op, operand, row.group(3 + operand));
            }
        }
        Due.due("README.md's table of instructions: how many", next, 14);
    }

    private static void operand(int op, int operand, String kind) {
        int most = switch (kind) {
            case "register" -> 2;
            case "channel" -> 3;
            case "program" -> 5;
            case "target" -> 12;
            case "number", "-" -> Integer.MAX_VALUE;
            default -> throw new IllegalArgumentException("no such kind of operand: " + kind);
        };
        boolean isFree = most == Integer.MAX_VALUE;
        String which = "README.md's table of instructions: op " + op + ", operand " + "abc".charAt(operand);
        Due.due(which + ", greatest", codeWith(op, operand, most), 1);
        Due.due(which + ", least", codeWith(op, operand, isFree ? Integer.MIN_VALUE : 0), 1);
        if (!isFree) {
            Due.due(which + ", above", codeWith(op, operand, most + 1), FibreDesk.REFUSED);
            Due.due(which + ", below", codeWith(op, operand, -1), FibreDesk.REFUSED);
        }
    }

    private static int codeWith(int op, int operand, int value) {
        int[] operands = new int[3];
        operands[operand] = value;
        return new FibreDesk(1).code(op, operands[0], operands[1], operands[2]);
    }

    private static void namesEveryTest(String readme) throws IOException {
        try (DirectoryStream<Path> tests = Files.newDirectoryStream(Path.of("src/test/java"), "*Test.java")) {
            for (Path test : tests) {
                String name = test.getFileName().toString().replace(".java", "");
                Due.due("README.md names " + name, readme.contains("| `" + name + "` |"), true);
            }
        }
    }
}
