import java.io.IOException;
import java.lang.reflect.Method;
import java.lang.reflect.Modifier;
import java.nio.file.Files;
import java.nio.file.Path;
import java.util.ArrayList;
import java.util.List;
import java.util.stream.Stream;

// README.md tells the truth: its example is the code of this test, answers and all, and it names
// every public method and every test. It is run from the project's folder.
public final class ReadmeTest {
    private static final Path README = Path.of("README.md");
    private static final Path TESTS = Path.of("src/test/java");

    private static int wrong = 0;

    private static void hold(boolean holds, String what) {
        if (!holds) {
            wrong++;
            System.out.println("broken: " + what);
        }
    }

    private static void due(String what, int got, int want) {
        hold(got == want, what + " answered " + got + ", due is " + want);
    }

    public static void main(String[] args) throws IOException {
        example();
        exampleIsTheOneOfReadme();
        everyMethodIsNamed();
        everyTestIsNamed();
        System.out.println(wrong == 0 ? "README.md tells the truth" : wrong + " things are not as due");
        if (wrong != 0) {
            System.exit(1);
        }
    }

    private static void example() {
        // the example begins
        OverloadSolver x = new OverloadSolver();

        // The rules: conversions, signatures, sets of the variables, literal costs.
        x.convert(0, 1, 2);                   // type 0 may become type 1, at cost 2
        x.overload(0, 9 * 0 + 3 * 0 + 0, 1);  // operator 0, position 0: takes (0, 0), gives 0, costs 1
        x.overload(0, 9 * 1 + 3 * 1 + 1, 3);  // operator 0, position 1: takes (1, 1), gives 1, costs 3
        x.declare(0, 6);                      // variable 0 has type 1 or 2 (2^1 + 2^2)
        x.literalCost(1, 4);                  // a literal of type 1 costs 4

        // The expression: each call answers the number of the node it made.
        int literal = x.literal(3);           // a literal of type 0 or 1 (2^0 + 2^1)
        int use = x.use(0);                   // a use of variable 0
        int sum = x.apply(0, literal, use);   // operator 0 applied to both

        // The questions: about a node and the type wanted of it.
        int any = OverloadSolver.ANY;
        int count = x.solutions(sum, any);            // 2: the literal has type 0 or 1
        int least = x.leastCost(sum, any);            // 5: signature 3, conversion 2
        int best = x.bestCount(sum, any);             // 1
        int dearer = x.withCost(sum, any, 7);         // 1: signature 3, literal 4
        int ofLiteral = x.chosen(sum, any, literal);  // 0: its type
        int ofUse = x.chosen(sum, any, use);          // 1: the type of its variable
        int ofSum = x.chosen(sum, any, sum);          // 1: the position of the signature
        int type = x.typeOf(sum, any);                // 1
        int none = x.leastCost(sum, 0);               // -3: type 1 does not become type 0
        // the example ends
        due("solutions", count, 2);
        due("leastCost", least, 5);
        due("bestCount", best, 1);
        due("withCost", dearer, 1);
        due("chosen for the literal", ofLiteral, 0);
        due("chosen for the use", ofUse, 1);
        due("chosen for the application", ofSum, 1);
        due("typeOf", type, 1);
        due("leastCost for type 0", none, -3);
    }

    private static void exampleIsTheOneOfReadme() throws IOException {
        List<String> shown = between(README, "```java", "```");
        List<String> tried = between(TESTS.resolve("ReadmeTest.java"),
            "// the example begins", "// the example ends");
        hold(!tried.isEmpty(), "the example of this test was found");
        hold(shown.equals(tried), "the example of README.md is the one that is tried here");
    }

    private static List<String> between(Path file, String first, String last) throws IOException {
        List<String> found = new ArrayList<>();
        boolean inside = false;
        for (String line : Files.readAllLines(file)) {
            String text = line.strip();
            if (inside && text.equals(last)) {
                return found;
            }
            if (inside) {
                found.add(text);
            }
            inside = inside || text.equals(first);
        }
        return found;
    }

    private static void everyMethodIsNamed() throws IOException {
        String text = Files.readString(README);
        for (Method method : OverloadSolver.class.getDeclaredMethods()) {
            if (Modifier.isPublic(method.getModifiers())) {
                hold(text.contains("| `" + method.getName() + "("), "README.md has a row for " + method.getName());
            }
        }
    }

    private static void everyTestIsNamed() throws IOException {
        String text = Files.readString(README);
        try (Stream<Path> files = Files.list(TESTS)) {
            files.map(file -> file.getFileName().toString().replace(".java", ""))
                .forEach(name -> hold(text.contains("- `" + name + "`"), "README.md names " + name));
        }
    }
}
