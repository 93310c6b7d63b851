import java.io.IOException;
import java.lang.reflect.Constructor;
import java.lang.reflect.Field;
import java.lang.reflect.Method;
import java.lang.reflect.Modifier;
import java.nio.file.Files;
import java.nio.file.Path;
import java.util.Arrays;
import java.util.HashMap;
import java.util.Map;
import java.util.Set;
import java.util.TreeSet;
import java.util.regex.Matcher;
import java.util.regex.Pattern;

// The public face of the document, and the rules of LANGUAGE.md that reflection or a plain look at
// the text can see. It is run from the project's folder.
public final class RulesTest {
    private static final Path SOURCE = Path.of("src/main/java/OverloadSolver.java");

    private static final Set<String> FACE = Set.of(
        "int convert(int, int, int)", "int overload(int, int, int)", "int forget(int)",
        "int declare(int, int)", "int literalCost(int, int)", "int literal(int)", "int use(int)",
        "int constant(int)", "int apply(int, int, int)", "int clear()", "int nodes()",
        "int solutions(int, int)", "int leastCost(int, int)", "int bestCount(int, int)",
        "int withCost(int, int, int)", "int chosen(int, int, int)", "int typeOf(int, int)");

    private static final Pattern BANNED = Pattern.compile(
        "\\b(import|package|throw|throws|try|catch|finally|synchronized|assert|instanceof|null|float"
        + "|double|String|Math|Integer|Long|System|Arrays|Object|enum|record|interface|extends"
        + "|implements|var|protected|this)\\b|->|::|\"|\\[\\s*\\]\\s*\\[");

    private static int wrong = 0;

    private static void hold(boolean holds, String what) {
        if (!holds) {
            wrong++;
            System.out.println("broken: " + what);
        }
    }

    public static void main(String[] args) throws IOException {
        Class<?> type = OverloadSolver.class;
        hold(type.getModifiers() == (Modifier.PUBLIC | Modifier.FINAL), "the class is public and final");
        hold(type.getDeclaredClasses().length == 0, "no nested class");
        checkMethods(type);
        checkConstructors(type);
        checkFields(type);
        checkText();
        checkCalls(type);
        System.out.println(wrong == 0 ? "the rules hold" : wrong + " rules are broken");
        if (wrong != 0) {
            System.exit(1);
        }
    }

    private static String signature(Method method) {
        String parameters = Arrays.toString(method.getParameterTypes());
        return method.getReturnType() + " " + method.getName() + "("
            + parameters.substring(1, parameters.length() - 1) + ")";
    }

    private static void checkMethods(Class<?> type) {
        Set<String> open = new TreeSet<>();
        Set<String> openNames = new TreeSet<>();
        for (Method method : type.getDeclaredMethods()) {
            if (method.getModifiers() == Modifier.PUBLIC) {
                open.add(signature(method));
                openNames.add(method.getName());
            }
        }
        hold(open.equals(FACE), "the public methods are those of the document, not " + open);
        for (Method method : type.getDeclaredMethods()) {
            if (method.getModifiers() != Modifier.PUBLIC) {
                hold(Modifier.isPrivate(method.getModifiers()), "private: " + method);
                hold(!openNames.contains(method.getName()), "a name of its own: " + method);
            }
            hold(method.getParameterCount() <= 7, "at most seven parameters: " + method);
        }
    }

    private static void checkConstructors(Class<?> type) {
        Constructor<?>[] all = type.getDeclaredConstructors();
        hold(all.length == 1 && all[0].getParameterCount() == 0
            && all[0].getModifiers() == Modifier.PUBLIC, "one public constructor without arguments");
    }

    private static void checkFields(Class<?> type) {
        int count = 0;
        for (Field field : type.getDeclaredFields()) {
            boolean isStatic = Modifier.isStatic(field.getModifiers());
            boolean isNumber = field.getType() == int.class || field.getType() == long.class;
            hold(field.getName().equals("ANY") ? Modifier.isPublic(field.getModifiers())
                : Modifier.isPrivate(field.getModifiers()), "access of " + field);
            hold(!isStatic || isNumber && Modifier.isFinal(field.getModifiers()), "a constant: " + field);
            Class<?> plain = field.getType().isArray() ? field.getType().getComponentType() : field.getType();
            hold(plain.isPrimitive(), "a number or an array of numbers: " + field);
            count += isStatic ? 0 : 1;
        }
        hold(count <= 40, "at most forty fields, not " + count);
    }

    private static String codeWithoutComments() throws IOException {
        String text = Files.readString(SOURCE);
        return text.replaceAll("(?s)/\\*.*?\\*/", "").replaceAll("//[^\\n]*", "");
    }

    private static void checkText() throws IOException {
        String code = codeWithoutComments();
        Matcher banned = BANNED.matcher(code);
        while (banned.find()) {
            hold(false, "not in the language: " + banned.group());
        }
        Matcher made = Pattern.compile("[^\\n]*\\bnew\\b[^\\n]*").matcher(code);
        while (made.find()) {
            hold(made.group().matches("    private final (int|boolean)\\[\\] \\w+ = new \\1\\[[A-Z_]+\\];"),
                "an array is made in a field's initialiser: " + made.group());
        }
        Matcher nested = Pattern.compile("\\b(?!if\\b|for\\b|while\\b|switch\\b|return\\b)\\w+\\(([^()]*\\b"
            + "(?!if\\b|for\\b)\\w+)\\(").matcher(code);
        while (nested.find()) {
            hold(false, "no call inside the arguments of a call: " + nested.group());
        }
    }

    // A method's text ends where a closing brace stands as far left as the method itself.
    private static Map<String, String> bodies() throws IOException {
        Map<String, String> bodies = new HashMap<>();
        Matcher method = Pattern.compile("(?ms)^    (?:public|private)[^=;{]*?(\\w+)\\([^)]*\\) \\{\\n(.*?)^    \\}$")
            .matcher(codeWithoutComments());
        while (method.find()) {
            bodies.put(method.group(1), method.group(2));
        }
        return bodies;
    }

    private static void checkCalls(Class<?> type) throws IOException {
        Map<String, String> bodies = bodies();
        for (Method method : type.getDeclaredMethods()) {
            hold(bodies.containsKey(method.getName()), "the text of " + method.getName() + " was found");
        }
        for (String name : bodies.keySet()) {
            hold(bodies.get(name).lines().count() <= 60, "some sixty lines: " + name);
            hold(depth(name, bodies, 1) <= 6, "at most six calls deep and no recursion: " + name);
        }
    }

    // Looks no further than one call too deep, so that it ends even for methods that call each other.
    private static int depth(String name, Map<String, String> bodies, int above) {
        int deepest = 1;
        if (above > 6) {
            return deepest;
        }
        Matcher call = Pattern.compile("\\b(\\w+)\\(").matcher(bodies.get(name));
        while (call.find()) {
            if (bodies.containsKey(call.group(1))) {
                deepest = Math.max(deepest, 1 + depth(call.group(1), bodies, above + 1));
            }
        }
        return deepest;
    }
}
