import java.io.IOException;
import java.lang.reflect.Field;
import java.lang.reflect.Method;
import java.nio.file.Files;
import java.nio.file.Path;
import java.util.List;
import java.util.Set;
import java.util.TreeSet;
import java.util.regex.Matcher;
import java.util.regex.Pattern;

// The calls that README.md shows answer what it says they answer. Run from the project's directory.
public final class ReadmeTest {
    private static final Pattern NEW_OBJECT =
        Pattern.compile("DescriptorTable table = new DescriptorTable\\(\\);");
    // A call with numbers alone, and behind // its answer: a number or a constant, then perhaps why.
    private static final Pattern CALL =
        Pattern.compile("table\\.(\\w+)\\(((?:-?\\d+(?:, -?\\d+)*)?)\\); +// (-?\\d+|[A-Z_]+)(?:: .*)?");
    private static final Pattern CONSTANT = Pattern.compile("\\| `([A-Z_]+)` \\| (-?\\d+) \\|.*");
    private static final Pattern ANY_CALL = Pattern.compile("table\\s*\\.\\s*\\w+\\s*\\(");

    private static int wrong = 0;
    private static int callsMade = 0;
    private static final Set<String> shownMethods = new TreeSet<>();
    private static final Set<String> shownConstants = new TreeSet<>();

    private static void fault(int line, String text) {
        wrong++;
        System.out.println("README.md, line " + line + ": " + text);
    }

    private static Method methodOf(String name) {
        for (Method method : DescriptorTable.class.getMethods()) {
            if (method.getDeclaringClass() == DescriptorTable.class && method.getName().equals(name)) {
                return method;
            }
        }
        return null;
    }

    private static Integer constant(String name) throws IllegalAccessException {
        for (Field field : DescriptorTable.class.getFields()) {
            if (field.getName().equals(name)) {
                return field.getInt(null);
            }
        }
        return null;
    }

    private static Object[] numbers(String arguments) {
        if (arguments.isEmpty()) {
            return new Object[0];
        }
        return List.of(arguments.split(", ")).stream().map(Integer::valueOf).toArray();
    }

    private static void checkCall(DescriptorTable table, int line, Matcher shown)
            throws ReflectiveOperationException {
        String name = shown.group(1);
        Method method = methodOf(name);
        Object[] arguments = numbers(shown.group(2));
        if (method == null || method.getParameterCount() != arguments.length) {
            fault(line, "the class has no such method: " + shown.group());
            return;
        }
        String told = shown.group(3);
        Integer due = Character.isUpperCase(told.charAt(0)) ? constant(told) : Integer.valueOf(told);
        int got = (int) method.invoke(table, arguments);
        callsMade++;
        shownMethods.add(name);
        if (due == null || due != got) {
            fault(line, name + "(" + shown.group(2) + ") answered " + got + ", README.md says " + told);
        }
    }

    private static void checkConstant(int line, Matcher shown) throws IllegalAccessException {
        Integer value = constant(shown.group(1));
        shownConstants.add(shown.group(1));
        if (value == null || value != Integer.parseInt(shown.group(2))) {
            fault(line, shown.group(1) + " is " + value + ", README.md says " + shown.group(2));
        }
    }

    private static void checkLines(List<String> lines) throws ReflectiveOperationException {
        boolean inCode = false;
        DescriptorTable table = null;
        for (int number = 1; number <= lines.size(); number++) {
            String line = lines.get(number - 1);
            Matcher call = CALL.matcher(line);
            Matcher value = CONSTANT.matcher(line);
            if (line.startsWith("```")) {
                inCode = line.equals("```java");
                table = null;
            } else if (inCode && NEW_OBJECT.matcher(line).matches()) {
                table = new DescriptorTable();
            } else if (inCode && table != null && call.matches()) {
                checkCall(table, number, call);
            } else if (inCode) {
                fault(number, "this test can't read: " + line);
            } else if (value.matches()) {
                checkConstant(number, value);
            }
        }
    }

    private static void checkNothingIsLeftOut(List<String> lines) {
        long calls = lines.stream().mapToLong(line -> ANY_CALL.matcher(line).results().count()).sum();
        if (calls != callsMade) {
            fault(lines.size(), callsMade + " of " + calls + " calls could be made");
        }
        for (Method method : DescriptorTable.class.getDeclaredMethods()) {
            boolean isPublic = java.lang.reflect.Modifier.isPublic(method.getModifiers());
            if (isPublic && !shownMethods.contains(method.getName())) {
                fault(lines.size(), method.getName() + " is not shown");
            }
        }
        for (Field field : DescriptorTable.class.getFields()) {
            if (!shownConstants.contains(field.getName())) {
                fault(lines.size(), field.getName() + " is not shown");
            }
        }
    }

    public static void main(String[] args) throws IOException, ReflectiveOperationException {
        List<String> lines = Files.readAllLines(Path.of("README.md"));
        checkLines(lines);
        checkNothingIsLeftOut(lines);
        System.out.println(wrong == 0 ? callsMade + " calls answer as README.md says"
            : wrong + " faults of README.md");
        if (wrong != 0) {
            System.exit(1);
        }
    }
}
