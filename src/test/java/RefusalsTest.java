import java.util.ArrayList;
import java.util.Arrays;
import java.util.List;
import java.util.function.Consumer;

// The three sentences that hold for every method: "No question changes anything. A refused call
// changes nothing. In every method the tests are made in the order named."
//
// Two objects are brought to the same state and one of them is made one call more. Then both are
// asked about everything, and must answer alike.
public final class RefusalsTest {
    private static final int ANY = OverloadSolver.ANY;
    private static final int LOW = Integer.MIN_VALUE;
    private static final int HIGH = Integer.MAX_VALUE;

    private static final List<String> SETTERS = List.of("convert", "overload", "forget", "declare",
        "literalCost", "literal", "use", "constant", "apply", "clear");
    private static final List<String> QUESTIONS = List.of("nodes", "solutions", "leastCost",
        "bestCount", "withCost", "chosen", "typeOf");

    private static int wrong = 0;
    private static int refused = 0;
    private static int asked = 0;

    private static void due(String what, int got, int want) {
        if (got != want) {
            wrong++;
            System.out.println(what + " answered " + got + ", due is " + want);
        }
    }

    public static void main(String[] args) {
        checkThatAWatchedChangeIsSeen();
        List<Consumer<OverloadSolver>> states = List.of(RefusalsTest::makeNew, RefusalsTest::makeSome,
            RefusalsTest::makeTree, RefusalsTest::makeTwelveLeaves, RefusalsTest::makeFull,
            RefusalsTest::makeCleared);
        for (int state = 0; state < states.size(); state++) {
            checkState(state, states.get(state));
        }
        orderOfSettings();
        orderOfNodes();
        orderOfApply();
        orderOfQuestions();
        System.out.println(refused + " refused calls and " + asked + " questions tried, " + wrong
            + " answers not as due");
        if (wrong != 0 || refused < 1000 || asked < 1000) {
            System.exit(1);
        }
    }

    // ---- states

    private static void makeNew(OverloadSolver x) {
    }

    private static void makeSome(OverloadSolver x) {
        x.convert(0, 1, 2);
        x.convert(2, 0, 0);
        x.overload(0, 13, 3);
        x.overload(1, 4, 1);
        x.overload(1, 22, 5);
        x.declare(1, 5);
        x.literalCost(1, 4);
        x.literal(3);
        x.use(1);
        x.apply(1, 0, 1);
        x.constant(2);
        x.use(0);
    }

    private static void makeTree(OverloadSolver x) {
        x.convert(0, 1, 1);
        x.convert(1, 2, 2);
        x.overload(0, 13, 2);
        x.overload(0, 26, 3);
        x.overload(2, 14, 0);
        x.literalCost(0, 1);
        x.literal(7);
        x.use(0);
        x.apply(0, 0, 1);
        x.constant(1);
        x.apply(2, 2, 3);
        x.literal(6);
        x.apply(0, 4, 5);
        x.constant(0);
    }

    private static void makeTwelveLeaves(OverloadSolver x) {
        x.convert(1, 0, 9);
        x.declare(0, 2);
        for (int n = 0; n < 4; n++) {
            x.literal(n + 1);
            x.use(n % 2);
            x.constant(n % 3);
        }
    }

    private static void makeFull(OverloadSolver x) {
        for (int from = 0; from < 3; from++) {
            x.convert(from, (from + 1) % 3, 9 - from);
            x.convert(from, (from + 2) % 3, from);
        }
        for (int op = 0; op < 3; op++) {
            for (int k = 0; k < 4; k++) {
                x.overload(op, 5 * k + 3 * op, 2 * k + op);
            }
            x.literalCost(op, 3 * op);
        }
        x.declare(0, 6);
        x.declare(1, 1);
        x.literal(7);
        x.use(0);
        for (int n = 0; n < 7; n++) {
            x.constant(n % 3);
        }
        x.apply(0, 0, 1);
        x.apply(1, 2, 3);
        x.apply(2, 4, 9);
    }

    private static void makeCleared(OverloadSolver x) {
        makeFull(x);
        x.clear();
        x.literal(5);
        x.constant(1);
        x.forget(1);
    }

    // ---- calls

    private static final class Call {
        final String name;
        final int[] with;

        Call(String name, int... with) {
            this.name = name;
            this.with = with;
        }

        int on(OverloadSolver x) {
            switch (name) {
                case "convert": return x.convert(with[0], with[1], with[2]);
                case "overload": return x.overload(with[0], with[1], with[2]);
                case "forget": return x.forget(with[0]);
                case "declare": return x.declare(with[0], with[1]);
                case "literalCost": return x.literalCost(with[0], with[1]);
                case "literal": return x.literal(with[0]);
                case "use": return x.use(with[0]);
                case "constant": return x.constant(with[0]);
                case "apply": return x.apply(with[0], with[1], with[2]);
                case "clear": return x.clear();
                case "nodes": return x.nodes();
                case "solutions": return x.solutions(with[0], with[1]);
                case "leastCost": return x.leastCost(with[0], with[1]);
                case "bestCount": return x.bestCount(with[0], with[1]);
                case "withCost": return x.withCost(with[0], with[1], with[2]);
                case "chosen": return x.chosen(with[0], with[1], with[2]);
                case "typeOf": return x.typeOf(with[0], with[1]);
                default: throw new IllegalArgumentException(name);
            }
        }

        @Override
        public String toString() {
            String list = Arrays.toString(with);
            return name + "(" + list.substring(1, list.length() - 1) + ")";
        }
    }

    // Both sides of each edge of each argument.
    private static List<Call> callsOf(String name) {
        int[] type = {-1, 0, 1, 2, 3};
        int[] node = {-1, 0, 2, 6, 11, 12};
        int[] wanted = {-1, 0, 2, ANY, 4};
        switch (name) {
            case "convert": return product(name, type, type, new int[] {-2, -1, 0, 9, 10});
            case "overload": return product(name, type, new int[] {-1, 0, 26, 27}, new int[] {-1, 0, 9, 10});
            case "forget": return product(name, new int[] {LOW, -1, 0, 2, 3, HIGH});
            case "declare": return product(name, new int[] {-1, 0, 1, 2}, new int[] {-1, 0, 1, 7, 8});
            case "literalCost": return product(name, type, new int[] {-1, 0, 9, 10});
            case "literal": return product(name, new int[] {LOW, -1, 0, 1, 7, 8, HIGH});
            case "use": return product(name, new int[] {LOW, -1, 0, 1, 2, HIGH});
            case "constant": return product(name, new int[] {LOW, -1, 0, 2, 3, HIGH});
            case "apply": return product(name, new int[] {-1, 0, 2, 3}, node, node);
            case "solutions":
            case "leastCost":
            case "bestCount":
            case "typeOf": return product(name, node, wanted);
            case "withCost": return product(name, node, wanted, new int[] {-1, 0, 5, 126, 127});
            case "chosen": return product(name, node, wanted, node);
            default: return List.of(new Call(name));
        }
    }

    private static List<Call> product(String name, int[]... choices) {
        List<Call> calls = new ArrayList<>();
        int[] at = new int[choices.length];
        int place = 0;
        while (place < choices.length) {
            int[] with = new int[choices.length];
            for (int k = 0; k < choices.length; k++) {
                with[k] = choices[k][at[k]];
            }
            calls.add(new Call(name, with));
            for (place = 0; place < choices.length; place++) {
                at[place]++;
                if (at[place] < choices[place].length) {
                    break;
                }
                at[place] = 0;
            }
        }
        return calls;
    }

    // ---- asking about everything; each of the three keeps an object below 512 calls

    private static List<Integer> aboutNodes(OverloadSolver x) {
        List<Integer> answers = new ArrayList<>();
        int count = x.nodes();
        answers.add(count);
        for (int node = 0; node < count; node++) {
            for (int wanted = 0; wanted <= 3; wanted++) {
                answers.add(x.solutions(node, wanted));
                answers.add(x.leastCost(node, wanted));
                answers.add(x.bestCount(node, wanted));
                answers.add(x.typeOf(node, wanted));
            }
            for (int part = 0; part < count; part++) {
                answers.add(x.chosen(node, ANY, part));
            }
        }
        return answers;
    }

    // What is taken, and how much room there is for nodes and applications.
    private static List<Integer> aboutRoom(OverloadSolver x) {
        List<Integer> answers = new ArrayList<>();
        int count = x.nodes();
        for (int node = 0; node + 1 < count; node++) {
            answers.add(x.apply(0, node, node + 1));
        }
        for (int k = 0; k < 13; k++) {
            answers.add(x.constant(k % 3));
        }
        for (int node = 0; node < 11; node++) {
            answers.add(x.apply(1, node, node + 1));
        }
        for (int node = 0; node < 12; node++) {
            answers.add(x.leastCost(node, 1));
        }
        answers.add(x.clear());
        return answers;
    }

    private static List<Integer> aboutSettings(OverloadSolver x) {
        List<Integer> answers = new ArrayList<>();
        answers.add(x.clear());
        for (int type = 0; type < 3; type++) {
            int constant = x.constant(type);
            int literal = x.literal(1 << type);
            for (int wanted = 0; wanted < 3; wanted++) {
                answers.add(x.leastCost(constant, wanted));
            }
            answers.add(x.leastCost(literal, ANY));
        }
        for (int from = 0; from < 3; from++) {
            x.convert(from, (from + 1) % 3, -1);
            x.convert(from, (from + 2) % 3, -1);
        }
        for (int left = 0; left < 3; left++) {
            for (int right = 0; right < 3; right++) {
                x.clear();
                for (int op = 0; op < 3; op++) {
                    int node = x.apply(op, x.constant(left), x.constant(right));
                    for (int wanted = 0; wanted < 3; wanted++) {
                        answers.add(x.solutions(node, wanted));
                        answers.add(x.leastCost(node, wanted));
                        answers.add(x.chosen(node, wanted, node));
                    }
                }
            }
        }
        for (int op = 0; op < 3; op++) {
            answers.add(x.forget(op));
        }
        answers.add(x.declare(0, 7));
        answers.add(x.declare(1, 7));
        return answers;
    }

    private static List<Integer> everything(Consumer<OverloadSolver> state, Consumer<OverloadSolver> more) {
        List<Integer> answers = new ArrayList<>();
        answers.addAll(aboutNodes(made(state, more)));
        answers.addAll(aboutRoom(made(state, more)));
        answers.addAll(aboutSettings(made(state, more)));
        return answers;
    }

    private static OverloadSolver made(Consumer<OverloadSolver> state, Consumer<OverloadSolver> more) {
        OverloadSolver x = new OverloadSolver();
        state.accept(x);
        more.accept(x);
        return x;
    }

    // ---- a refused call and a question change nothing

    private static void checkState(int number, Consumer<OverloadSolver> state) {
        List<Integer> before = everything(state, x -> { });
        for (String name : SETTERS) {
            for (Call call : callsOf(name)) {
                if (call.on(made(state, x -> { })) < 0) {
                    refused++;
                    checkUnchanged(number, state, call, before);
                }
            }
        }
        for (String name : QUESTIONS) {
            for (Call call : callsOf(name)) {
                asked++;
                checkUnchanged(number, state, call, before);
                due("the second " + call + " in state " + number,
                    call.on(made(state, call::on)), call.on(made(state, x -> { })));
            }
        }
    }

    private static void checkUnchanged(int number, Consumer<OverloadSolver> state, Call call,
            List<Integer> before) {
        if (!everything(state, call::on).equals(before)) {
            wrong++;
            System.out.println(call + " in state " + number + " changed something");
        }
    }

    // Without this, asking about too little would look like nothing having changed.
    private static void checkThatAWatchedChangeIsSeen() {
        List<Integer> before = everything(RefusalsTest::makeTree, x -> { });
        Call[] calls = {new Call("convert", 2, 0, 9), new Call("convert", 0, 1, -1),
            new Call("overload", 1, 8, 0), new Call("forget", 2), new Call("declare", 1, 6),
            new Call("literalCost", 2, 1), new Call("literal", 1), new Call("use", 1),
            new Call("constant", 0), new Call("clear")};
        for (Call call : calls) {
            if (everything(RefusalsTest::makeTree, call::on).equals(before)) {
                wrong++;
                System.out.println(call + " changes something, but this test does not see it");
            }
        }
        List<Integer> some = everything(RefusalsTest::makeSome, x -> { });
        if (everything(RefusalsTest::makeSome, x -> x.apply(0, 3, 4)).equals(some)) {
            wrong++;
            System.out.println("apply changes something, but this test does not see it");
        }
    }

    // ---- the tests are made in the order named: each call breaks two rules or more

    private static void orderOfSettings() {
        OverloadSolver x = new OverloadSolver();
        due("convert: -1 before -2", x.convert(3, 3, 0), -1);
        due("convert: -1 before -2", x.convert(-1, -1, 0), -1);
        due("convert: -1 before -3", x.convert(3, 0, 10), -1);
        due("convert: -1 before -3", x.convert(0, -1, -2), -1);
        due("convert: -2 before -3", x.convert(0, 0, 10), -2);
        due("convert: -2 before -3", x.convert(2, 2, -2), -2);
        due("convert: -1 before all", x.convert(3, 3, 10), -1);

        for (int k = 0; k < 4; k++) {
            x.overload(1, 0, 0);
        }
        due("overload: -1 before -2", x.overload(3, 27, 0), -1);
        due("overload: -1 before -3", x.overload(-1, 0, 10), -1);
        due("overload: -1 before all", x.overload(3, -1, -1), -1);
        due("overload: -2 before -3", x.overload(0, 27, 10), -2);
        due("overload: -2 before -3", x.overload(0, -1, -1), -2);
        due("overload: -2 before -4", x.overload(1, 27, 0), -2);
        due("overload: -3 before -4", x.overload(1, 0, 10), -3);
        due("overload: -3 before -4", x.overload(1, 0, -1), -3);
        due("overload: -2 before -3 and -4", x.overload(1, -1, 10), -2);
        due("overload: -4 alone", x.overload(1, 0, 0), -4);

        due("declare: -1 before -2", x.declare(2, 0), -1);
        due("declare: -1 before -2", x.declare(-1, 8), -1);
        due("literalCost: -1 before -2", x.literalCost(3, 10), -1);
        due("literalCost: -1 before -2", x.literalCost(-1, -1), -1);
    }

    private static void orderOfNodes() {
        OverloadSolver x = made(RefusalsTest::makeTwelveLeaves, y -> { });
        due("literal: -1 before -2", x.literal(0), -1);
        due("literal: -1 before -2", x.literal(8), -1);
        due("literal: -2 alone", x.literal(7), -2);
        due("use: -1 before -2", x.use(-1), -1);
        due("use: -1 before -2", x.use(2), -1);
        due("use: -2 alone", x.use(1), -2);
        due("constant: -1 before -2", x.constant(-1), -1);
        due("constant: -1 before -2", x.constant(3), -1);
        due("constant: -2 alone", x.constant(2), -2);
    }

    private static void orderOfApply() {
        OverloadSolver x = new OverloadSolver();
        for (int n = 0; n < 3; n++) {
            x.constant(0);
        }
        x.apply(0, 0, 1);
        due("apply: -1 before -2", x.apply(3, -1, 2), -1);
        due("apply: -1 before -2", x.apply(-1, 2, 4), -1);
        due("apply: -1 before -3", x.apply(3, 2, 2), -1);
        due("apply: -1 before -3", x.apply(3, 0, 2), -1);
        due("apply: -2 before -3, same", x.apply(0, 4, 4), -2);
        due("apply: -2 before -3, left taken", x.apply(0, 0, 4), -2);
        due("apply: -2 before -3, right taken", x.apply(0, -1, 1), -2);

        OverloadSolver three = new OverloadSolver();
        for (int n = 0; n < 8; n++) {
            three.constant(0);
        }
        for (int k = 0; k < 3; k++) {
            three.apply(0, 2 * k, 2 * k + 1);
        }
        orderWhenFull(three, 11);

        OverloadSolver twelve = new OverloadSolver();
        for (int n = 0; n < 11; n++) {
            twelve.constant(0);
        }
        twelve.apply(0, 0, 1);
        orderWhenFull(twelve, 12);
    }

    // Nodes 6 and 7 are free, 0 and 1 are taken, and no application can be made any more.
    private static void orderWhenFull(OverloadSolver x, int noNode) {
        due("apply: -1 before -4", x.apply(3, 6, 7), -1);
        due("apply: -1 before all", x.apply(-1, noNode, noNode), -1);
        due("apply: -2 before -4", x.apply(0, noNode, 6), -2);
        due("apply: -2 before -4", x.apply(0, 6, -1), -2);
        due("apply: -2 before -3 and -4", x.apply(0, noNode, noNode), -2);
        due("apply: -2 before -3 and -4", x.apply(0, 0, noNode), -2);
        due("apply: -3 before -4, same", x.apply(0, 6, 6), -3);
        due("apply: -3 before -4, left taken", x.apply(0, 0, 6), -3);
        due("apply: -3 before -4, right taken", x.apply(0, 6, 1), -3);
        due("apply: -4 alone", x.apply(0, 6, 7), -4);
    }

    private static void orderOfQuestions() {
        OverloadSolver x = new OverloadSolver();
        x.constant(0);
        x.literal(3);
        x.constant(1);
        int[] wanted = {-1, 4};
        int[] node = {-1, 3};
        for (int bad : wanted) {
            for (int none : node) {
                due("solutions: -1 before -2", x.solutions(none, bad), -1);
                due("leastCost: -1 before -2", x.leastCost(none, bad), -1);
                due("bestCount: -1 before -2", x.bestCount(none, bad), -1);
                due("withCost: -1 before -2", x.withCost(none, bad, -1), -1);
                due("chosen: -1 before -2", x.chosen(none, bad, 0), -1);
                due("chosen: -1 before -2 and -3", x.chosen(none, bad, 9), -1);
                due("typeOf: -1 before -2", x.typeOf(none, bad), -1);
                due("chosen: -1 before -3", x.chosen(none, ANY, 9), -1);
            }
            due("chosen: -2 before -3", x.chosen(0, bad, 1), -2);
            due("chosen: -2 before -4", x.chosen(1, bad, 1), -2);
            due("typeOf: -2 before -4", x.typeOf(1, bad), -2);
        }
        due("chosen: -3 before -4, no solution", x.chosen(0, 1, 1), -3);
        due("chosen: -3 before -4, two best", x.chosen(1, ANY, 0), -3);
        due("chosen: -3 before -4, no such part", x.chosen(1, ANY, 3), -3);
        due("chosen: -4 alone, no solution", x.chosen(0, 1, 0), -4);
        due("chosen: -4 alone, two best", x.chosen(1, ANY, 1), -4);

        x.apply(0, 0, 2);
        for (int bad : wanted) {
            due("leastCost: -2 before -3", x.leastCost(3, bad), -2);
            due("bestCount: -2 before 0", x.bestCount(3, bad), -2);
            due("chosen: -2 before -4, no solution", x.chosen(3, bad, 3), -2);
            due("typeOf: -2 before -4, no solution", x.typeOf(3, bad), -2);
        }
        due("leastCost: -3 alone", x.leastCost(3, ANY), -3);
    }
}
