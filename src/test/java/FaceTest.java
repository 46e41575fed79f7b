import java.io.IOException;
import java.lang.reflect.Constructor;
import java.lang.reflect.Field;
import java.lang.reflect.Method;
import java.lang.reflect.Modifier;
import java.nio.file.Files;
import java.nio.file.Path;
import java.util.Arrays;
import java.util.Map;
import java.util.Set;
import java.util.TreeSet;
import java.util.regex.Matcher;
import java.util.regex.Pattern;

/** The public face of the document, and the rules of LANGUAGE.md that show in the class file or in single words. */
public final class FaceTest {
    private static final Path SOURCE = Path.of("src/main/java/IntegerHull.java");

    private static final Set<String> METHODS = Set.of(
            "int condition(int, int, int)", "int drop()", "int shift(int, int)", "int points()", "boolean has(int, int)",
            "int corners()", "int corner(int)", "int area2()", "int border()", "int best(int, int)",
            "int bestCorner(int, int)", "int column(int)");
    private static final Map<String, Integer> CONSTANTS = Map.of("BAD_FACTOR", -1, "FULL", -2, "NONE", -3);
    private static final Set<String> FIELD_TYPES = Set.of(
            "int", "long", "short", "byte", "char", "boolean",
            "int[]", "long[]", "short[]", "byte[]", "char[]", "boolean[]");
    private static final int CONSTANT_MODIFIERS = Modifier.PUBLIC | Modifier.STATIC | Modifier.FINAL;
    private static final Pattern FORBIDDEN_WORD = Pattern.compile(
            "\\b(import|package|throws?|try|catch|finally|synchronized|assert|instanceof|null|float|double|var|interface"
                    + "|enum|record|native|String|Object|Math|Integer|System|Arrays)\\b|->|::|\"");

    private static final Check check = new Check();

    public static void main(String[] args) throws IllegalAccessException, IOException {
        theClass();
        theConstructor();
        theMethods();
        theFields();
        theWords();
        check.end();
    }

    private static void theClass() {
        int modifiers = IntegerHull.class.getModifiers();
        check.due("public final class", modifiers, Modifier.PUBLIC | Modifier.FINAL);
        check.due("extends Object", IntegerHull.class.getSuperclass() == Object.class, true);
        check.due("interfaces", IntegerHull.class.getInterfaces().length, 0);
        check.due("nested classes", IntegerHull.class.getDeclaredClasses().length, 0);
        check.due("in no package", IntegerHull.class.getPackageName().isEmpty(), true);
    }

    private static void theConstructor() {
        Constructor<?>[] constructors = IntegerHull.class.getDeclaredConstructors();
        check.due("constructors", constructors.length, 1);
        check.due("constructor's parameters", constructors[0].getParameterCount(), 0);
        check.due("constructor is public", constructors[0].getModifiers(), Modifier.PUBLIC);
    }

    private static void theMethods() {
        Set<String> publicNames = new TreeSet<>();
        int found = 0;
        for (Method method : IntegerHull.class.getDeclaredMethods()) {
            if (Modifier.isPublic(method.getModifiers())) {
                found++;
                publicNames.add(method.getName());
                check.due(face(method) + " is in the document", METHODS.contains(face(method)), true);
                check.due(face(method) + " is plainly public", method.getModifiers(), Modifier.PUBLIC);
            }
        }
        check.due("public methods", found, METHODS.size());
        for (Method method : IntegerHull.class.getDeclaredMethods()) {
            check.due(face(method) + " has few parameters", method.getParameterCount() <= 7, true);
            check.due(face(method) + " answers no array", method.getReturnType().isArray(), false);
            if (!Modifier.isPublic(method.getModifiers())) {
                check.due(face(method) + " is private", Modifier.isPrivate(method.getModifiers()), true);
                check.due(face(method) + " has a name of its own", publicNames.contains(method.getName()), false);
            }
        }
    }

    /** A method as the document's face tells it, without the parameters' names. */
    static String face(Method method) {
        String parameters = Arrays.toString(method.getParameterTypes());
        String inside = parameters.substring(1, parameters.length() - 1);
        return method.getReturnType().getTypeName() + " " + method.getName() + "(" + inside + ")";
    }

    private static void theFields() throws IllegalAccessException {
        int constants = 0;
        for (Field field : IntegerHull.class.getDeclaredFields()) {
            String type = field.getType().getTypeName();
            int modifiers = field.getModifiers();
            check.due(field.getName() + " has a plain type", FIELD_TYPES.contains(type), true);
            if (Modifier.isStatic(modifiers)) {
                check.due(field.getName() + " is final", Modifier.isFinal(modifiers), true);
                check.due(field.getName() + " is int or long", type.equals("int") || type.equals("long"), true);
            }
            if (CONSTANTS.containsKey(field.getName())) {
                constants++;
                check.due(field.getName() + "'s modifiers", modifiers, CONSTANT_MODIFIERS);
                check.due(field.getName() + "'s type", type, "int");
                check.due(field.getName(), field.getLong(null), CONSTANTS.get(field.getName()));
            } else {
                check.due(field.getName() + " is private", Modifier.isPrivate(modifiers), true);
            }
        }
        check.due("constants", constants, CONSTANTS.size());
    }

    private static void theWords() throws IOException {
        String text = Files.readString(SOURCE);
        String code = text.replaceAll("(?s)/\\*.*?\\*/", "").replaceAll("//[^\\n]*", "");
        Matcher word = FORBIDDEN_WORD.matcher(code);
        while (word.find()) {
            check.fail("LANGUAGE.md has no room for: " + word.group());
        }
        int firstMethod = code.indexOf("public IntegerHull()");
        check.due("the constructor is found", firstMethod > 0, true);
        check.due("no array is made after the fields", code.indexOf("new ", firstMethod) < 0, true);
    }
}
