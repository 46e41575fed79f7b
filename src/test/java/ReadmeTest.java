import java.io.IOException;
import java.lang.reflect.Field;
import java.lang.reflect.Method;
import java.lang.reflect.Modifier;
import java.nio.file.Files;
import java.nio.file.Path;
import java.util.ArrayList;
import java.util.Arrays;
import java.util.List;
import java.util.Set;
import java.util.TreeSet;
import java.util.regex.Matcher;
import java.util.regex.Pattern;

/** The example calls of README.md with the answers that it shows, and its tables of the methods and constants. */
public final class ReadmeTest {
    private static final Path README = Path.of("README.md");
    private static final String MAKING = "IntegerHull hull = new IntegerHull();";
    private static final Pattern CALL = Pattern.compile(
            "hull\\.(\\w+)\\(([-0-9, ]*)\\); +// (-?[0-9]+|true|false|BAD_FACTOR|FULL|NONE)(: .+)?");
    private static final Pattern METHOD_ROW = Pattern.compile("\\| `(\\w+) (\\w+)\\(([^)]*)\\)` \\| .+ \\|");
    private static final Pattern CONSTANT_ROW = Pattern.compile("\\| `([A-Z_]+)` \\| (-?[0-9]+) \\| .+ \\|");

    private static final Check check = new Check();
    private static final Set<String> called = new TreeSet<>();

    public static void main(String[] args) throws ReflectiveOperationException, IOException {
        List<String> lines = Files.readAllLines(README);
        examples(lines);
        everyMethodIsCalled();
        theMethods(lines);
        theConstants(lines);
        check.end();
    }

    /** Each block of Java is one object's story: it is made in the first line and called in every other one. */
    private static void examples(List<String> lines) throws ReflectiveOperationException {
        IntegerHull hull = null;
        boolean inExample = false;
        for (String line : lines) {
            if (line.startsWith("```")) {
                inExample = line.equals("```java");
                hull = null;
            } else if (inExample && line.equals(MAKING)) {
                hull = new IntegerHull();
            } else if (inExample) {
                exampleCall(hull, line);
            }
        }
    }

    /** A line that is not understood fails the test, so that no example goes by untried. */
    private static void exampleCall(IntegerHull hull, String line) throws ReflectiveOperationException {
        Matcher call = CALL.matcher(line);
        if (hull == null || !call.matches()) {
            check.fail("README.md: no example call with its answer: " + line);
            return;
        }
        called.add(call.group(1));
        Object[] arguments = numbers(call.group(2));
        Class<?>[] types = new Class<?>[arguments.length];
        Arrays.fill(types, int.class);
        Object answer = IntegerHull.class.getMethod(call.group(1), types).invoke(hull, arguments);
        check.due("README.md: " + line, answer.toString(), due(call.group(3)));
    }

    private static Object[] numbers(String list) {
        return list.isEmpty() ? new Object[0] : Arrays.stream(list.split(", ")).map(Integer::valueOf).toArray();
    }

    private static String due(String shown) throws ReflectiveOperationException {
        boolean isConstant = Character.isUpperCase(shown.charAt(0));
        return isConstant ? IntegerHull.class.getField(shown).get(null).toString() : shown;
    }

    private static void everyMethodIsCalled() {
        for (Method method : IntegerHull.class.getDeclaredMethods()) {
            if (Modifier.isPublic(method.getModifiers())) {
                check.due("README.md calls " + method.getName(), called.contains(method.getName()), true);
            }
        }
    }

    private static void theMethods(List<String> lines) {
        List<String> told = new ArrayList<>();
        for (String line : lines) {
            Matcher row = METHOD_ROW.matcher(line);
            if (row.matches()) {
                String types = row.group(3).replaceAll(" \\w+(?=,|$)", "");
                told.add(row.group(1) + " " + row.group(2) + "(" + types + ")");
            }
        }
        List<String> there = new ArrayList<>();
        for (Method method : IntegerHull.class.getDeclaredMethods()) {
            if (Modifier.isPublic(method.getModifiers())) {
                there.add(FaceTest.face(method));
            }
        }
        sameEntries("README.md's methods", told, there);
    }

    private static void theConstants(List<String> lines) throws IllegalAccessException {
        List<String> told = new ArrayList<>();
        for (String line : lines) {
            Matcher row = CONSTANT_ROW.matcher(line);
            if (row.matches()) {
                told.add(row.group(1) + " = " + row.group(2));
            }
        }
        List<String> there = new ArrayList<>();
        for (Field field : IntegerHull.class.getFields()) {
            there.add(field.getName() + " = " + field.get(null));
        }
        sameEntries("README.md's constants", told, there);
    }

    private static void sameEntries(String what, List<String> told, List<String> there) {
        told.sort(null);
        there.sort(null);
        check.due(what, told.toString(), there.toString());
    }
}
