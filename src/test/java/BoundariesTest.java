import java.util.HashSet;
import java.util.Set;

// Goes through the document sentence by sentence: each one that names a boundary case has a test of
// its own here, which says the sentence, or what follows from it, and then tries the last value
// taken and the first refused. RefusalsTest has the three sentences that hold for every method.
public final class BoundariesTest {
    private static final int ANY = OverloadSolver.ANY;
    private static final int LOW = Integer.MIN_VALUE;
    private static final int HIGH = Integer.MAX_VALUE;

    private static String sentence = "";
    private static final Set<String> SENTENCES = new HashSet<>();
    private static int wrong = 0;

    private static void sentence(String words) {
        sentence = words;
        SENTENCES.add(words);
    }

    private static void due(String call, int got, int want) {
        if (got != want) {
            wrong++;
            System.out.println("'" + sentence + "': " + call + " answered " + got + ", due is " + want);
        }
    }

    public static void main(String[] args) {
        usedFor512Calls();
        conversionTerms();
        operatorTerms();
        variableTerms();
        literalTerms();
        nodeTerms();
        partTerms();
        solutionTerms();
        conversionsOfASolution();
        costTerms();
        promise1NewObject();
        promise2Convert();
        promise3Overload();
        promise3OverloadFull();
        promise4Forget();
        promise5Declare();
        promise6LiteralCost();
        promise7Literal();
        promise8Use();
        promise9Constant();
        promise10ApplyRanges();
        promise10ApplyTaken();
        promise10ApplyFull();
        promise11Clear();
        promise12Nodes();
        noSuchNode();
        wantedOutOfRange();
        promise13Solutions();
        promise14LeastCost();
        promise15BestCount();
        promise16WithCost();
        promise17ChosenValues();
        promise17ChosenParts();
        promise17ChosenOnlyBest();
        promise18TypeOf();
        System.out.println(SENTENCES.size() + " sentences tried, " + wrong + " answers not as due");
        if (wrong != 0) {
            System.exit(1);
        }
    }

    // ---- what it is

    private static void usedFor512Calls() {
        sentence("An object is used for at most 512 calls after it has been made");
        OverloadSolver x = new OverloadSolver();
        int calls = 0;
        while (calls + 4 <= 508) {
            due("literal, call " + calls, x.literal(5), 0);
            due("solutions, call " + calls, x.solutions(0, ANY), 2);
            due("nodes, call " + calls, x.nodes(), 1);
            due("clear, call " + calls, x.clear(), 1);
            calls += 4;
        }
        due("call 509", x.constant(2), 0);
        due("call 510", x.convert(2, 0, 9), 0);
        due("call 511", x.leastCost(0, 0), 9);
        due("call 512", x.clear(), 1);

        OverloadSolver full = new OverloadSolver();
        for (calls = 0; calls < 12; calls++) {
            due("call " + (calls + 1), full.constant(0), calls);
        }
        for (; calls < 511; calls++) {
            due("call " + (calls + 1), full.literal(1), -2);
        }
        due("call 512", full.nodes(), 12);
    }

    // ---- terms

    private static void conversionTerms() {
        sentence("There are three TYPES, 0, 1 and 2");
        OverloadSolver x = new OverloadSolver();
        due("constant(-1)", x.constant(-1), -1);
        due("constant(0)", x.constant(0), 0);
        due("constant(1)", x.constant(1), 1);
        due("constant(2)", x.constant(2), 2);
        due("constant(3)", x.constant(3), -1);

        sentence("at first none is allowed");
        for (int from = 0; from < 3; from++) {
            for (int to = 0; to < 3; to++) {
                if (from != to) {
                    due("solutions(" + from + ", " + to + ")", x.solutions(from, to), 0);
                }
            }
        }

        sentence("From a type to itself conversion is always allowed and costs 0");
        for (int type = 0; type < 3; type++) {
            due("solutions to itself", x.solutions(type, type), 1);
            due("leastCost to itself", x.leastCost(type, type), 0);
            x.convert(type, type, -1);
            x.convert(type, type, 9);
            due("solutions to itself after convert", x.solutions(type, type), 1);
            due("leastCost to itself after convert", x.leastCost(type, type), 0);
        }

        sentence("CONVERSION from one type to another either is not allowed or has a cost 0 .. 9");
        for (int cost = 0; cost <= 9; cost++) {
            due("convert", x.convert(1, 2, cost), 0);
            due("leastCost for " + cost, x.leastCost(1, 2), cost);
        }
        due("the other way", x.solutions(2, 1), 0);
    }

    private static void operatorTerms() {
        sentence("There are three OPERATORS, 0, 1 and 2");
        OverloadSolver x = new OverloadSolver();
        due("forget(-1)", x.forget(-1), -1);
        due("forget(0)", x.forget(0), 0);
        due("forget(2)", x.forget(2), 0);
        due("forget(3)", x.forget(3), -1);

        sentence("All lists are empty at first");
        for (int op = 0; op < 3; op++) {
            OverloadSolver y = new OverloadSolver();
            int left = y.literal(7);
            int right = y.literal(7);
            due("solutions of operator " + op, y.solutions(y.apply(op, left, right), ANY), 0);
            due("first overload of " + op, y.overload(op, 0, 0), 1);
            due("solutions of operator " + op, y.solutions(2, ANY), 1);
        }

        sentence("Each has a list of at most 4 SIGNATURES");
        for (int op = 0; op < 3; op++) {
            for (int held = 1; held <= 4; held++) {
                due("overload " + held + " of " + op, x.overload(op, 26, 9), held);
            }
            due("overload 5 of " + op, x.overload(op, 26, 9), -4);
        }

        sentence("a signature has a left type, a right type, a result type and a cost 0 .. 9");
        for (int cost = 0; cost <= 9; cost++) {
            OverloadSolver y = new OverloadSolver();
            due("overload", y.overload(2, 9 * 1 + 3 * 2 + 0, cost), 1);
            y.constant(1);
            y.constant(2);
            due("apply", y.apply(2, 0, 1), 2);
            due("leastCost", y.leastCost(2, ANY), cost);
            due("typeOf", y.typeOf(2, ANY), 0);
        }
    }

    private static void variableTerms() {
        sentence("There are two VARIABLES, 0 and 1");
        OverloadSolver x = new OverloadSolver();
        due("use(-1)", x.use(-1), -1);
        due("use(0)", x.use(0), 0);
        due("use(1)", x.use(1), 1);
        due("use(2)", x.use(2), -1);

        sentence("both sets are 7 at first");
        for (int v = 0; v < 2; v++) {
            due("solutions of a use", x.solutions(v, ANY), 3);
            for (int type = 0; type < 3; type++) {
                due("solutions of a use, " + type, x.solutions(v, type), 1);
            }
        }
        due("declare(0, 1)", x.declare(0, 1), 7);
        due("declare(1, 1)", x.declare(1, 1), 7);

        sentence("Each may have any of the types of its SET, written as the sum of 2^t over its types");
        for (int set = 1; set <= 7; set++) {
            x.declare(0, set);
            for (int type = 0; type < 3; type++) {
                due("set " + set + ", type " + type, x.solutions(0, type), set >> type & 1);
            }
        }
        due("variable 1 has its own set", x.solutions(1, ANY), 1);

        sentence("All uses of a variable have the same type");
        OverloadSolver y = new OverloadSolver();
        for (int n = 0; n < 4; n++) {
            y.use(1);
        }
        for (int from = 0; from < 3; from++) {
            y.convert(from, (from + 1) % 3, 0);
            y.convert(from, (from + 2) % 3, 0);
        }
        y.overload(0, 0, 0);
        y.apply(0, 0, 1);
        y.apply(0, 2, 3);
        y.apply(0, 4, 5);
        due("solutions with two uses", y.solutions(4, ANY), 3);
        due("solutions with four uses", y.solutions(6, ANY), 3);
    }

    private static void literalTerms() {
        sentence("There is a LITERAL COST 0 .. 9 for each type, 0 at first");
        OverloadSolver x = new OverloadSolver();
        x.literal(7);
        for (int type = 0; type < 3; type++) {
            due("leastCost at first", x.leastCost(0, type), 0);
        }
        for (int type = 0; type < 3; type++) {
            for (int cost = 9; cost >= 0; cost--) {
                due("literalCost", x.literalCost(type, cost), 0);
                due("leastCost", x.leastCost(0, type), cost);
            }
            due("literalCost", x.literalCost(type, type + 1), 0);
        }
        for (int type = 0; type < 3; type++) {
            due("each type has its own", x.leastCost(0, type), type + 1);
        }

        sentence("a literal has a set of types (1 .. 7)");
        OverloadSolver y = new OverloadSolver();
        due("literal(0)", y.literal(0), -1);
        due("literal(1)", y.literal(1), 0);
        due("literal(7)", y.literal(7), 1);
        due("literal(8)", y.literal(8), -1);
        due("solutions of set 1", y.solutions(0, ANY), 1);
        due("solutions of set 7", y.solutions(1, ANY), 3);
    }

    private static void nodeTerms() {
        sentence("numbered 0, 1, 2, .. in the order in which they are made, at most 12");
        OverloadSolver x = new OverloadSolver();
        for (int n = 0; n < 12; n += 3) {
            due("literal", x.literal(1), n);
            due("use", x.use(0), n + 1);
            due("constant", x.constant(0), n + 2);
        }
        due("literal 13", x.literal(1), -2);
        due("use 13", x.use(0), -2);
        due("constant 13", x.constant(0), -2);
        due("apply 13", x.apply(0, 0, 1), -4);
        due("nodes", x.nodes(), 12);
        due("the twelfth node", x.solutions(11, ANY), 1);
        due("no thirteenth node", x.solutions(12, ANY), -1);

        sentence("of which at most 3 are applications");
        OverloadSolver y = new OverloadSolver();
        for (int n = 0; n < 5; n++) {
            y.constant(0);
        }
        due("apply 1", y.apply(0, 0, 1), 5);
        due("apply 2", y.apply(1, 5, 2), 6);
        due("apply 3", y.apply(2, 6, 3), 7);
        due("apply 4", y.apply(0, 7, 4), -4);
        due("nodes", y.nodes(), 8);

        sentence("an application of an operator to two earlier nodes, left and right");
        OverloadSolver z = new OverloadSolver();
        due("apply without nodes", z.apply(0, 0, 1), -2);
        z.constant(0);
        due("apply to itself as right", z.apply(0, 0, 1), -2);
        due("apply to itself as left", z.apply(0, 1, 0), -2);
        z.constant(0);
        due("apply to two earlier ones", z.apply(0, 0, 1), 2);

        sentence("A node can be part of only one application, and not twice of the same");
        z.constant(0);
        due("again as left", z.apply(0, 0, 3), -3);
        due("again as right", z.apply(0, 3, 0), -3);
        due("twice", z.apply(0, 3, 3), -3);
        due("once", z.apply(0, 3, 2), 4);
    }

    private static void partTerms() {
        sentence("The PARTS of a node are the node itself and, for an application, the parts of its"
            + " left and its right node");
        OverloadSolver x = new OverloadSolver();
        for (int n = 0; n < 5; n++) {
            x.constant(0);
        }
        x.overload(0, 0, 0);
        x.apply(0, 0, 1);
        x.apply(0, 2, 5);
        x.apply(0, 6, 4);
        String[] parts = {"0", "1", "2", "3", "4", "0 1 5", "0 1 2 5 6", "0 1 2 4 5 6 7"};
        for (int node = 0; node < 8; node++) {
            for (int part = -1; part <= 8; part++) {
                boolean isPart = (" " + parts[node] + " ").contains(" " + part + " ");
                due("chosen(" + node + ", 3, " + part + ")", x.chosen(node, ANY, part), isPart ? 0 : -3);
            }
        }
    }

    private static void solutionTerms() {
        sentence("chooses for every literal among the parts of N a type of its set");
        OverloadSolver x = new OverloadSolver();
        x.literal(7);
        x.literal(6);
        x.literal(7);
        x.convert(1, 0, 0);
        x.convert(2, 0, 0);
        x.overload(0, 0, 0);
        x.apply(0, 0, 1);
        due("two literals", x.solutions(3, ANY), 3 * 2);
        due("one literal", x.solutions(1, ANY), 2);

        sentence("for every application among them one signature of its operator's list (by its"
            + " position, 0 for the first)");
        for (int place = 0; place < 4; place++) {
            OverloadSolver y = new OverloadSolver();
            y.constant(0);
            y.constant(0);
            y.apply(0, 0, 1);
            for (int k = 0; k < 4; k++) {
                y.overload(0, 0, k == place ? 8 : 9);
            }
            due("solutions", y.solutions(2, ANY), 4);
            due("position", y.chosen(2, ANY, 2), place);
        }

        sentence("for every variable that a use among them names a type of the variable's set");
        OverloadSolver z = new OverloadSolver();
        z.overload(0, 0, 0);
        z.convert(1, 0, 0);
        z.convert(2, 0, 0);
        z.use(0);
        z.use(1);
        z.constant(0);
        z.constant(0);
        z.apply(0, 0, 2);
        due("only variable 0 is named", z.solutions(4, ANY), 3);
        z.apply(0, 4, 1);
        due("both are named", z.solutions(5, ANY), 9);
        due("none is named", z.solutions(3, ANY), 1);
        z.declare(1, 6);
        due("a smaller set", z.solutions(5, ANY), 6);
        due("a smaller set that is not named", z.solutions(4, ANY), 3);
    }

    private static void conversionsOfASolution() {
        sentence("for every application the conversions from the type of its left node to the"
            + " signature's left type and from the type of its right node to the signature's right"
            + " type are allowed");
        OverloadSolver x = new OverloadSolver();
        x.constant(0);
        x.constant(1);
        x.overload(0, 9 * 1 + 3 * 2 + 0, 0);
        x.apply(0, 0, 1);
        due("neither", x.solutions(2, ANY), 0);
        x.convert(0, 1, 1);
        due("left only", x.solutions(2, ANY), 0);
        x.convert(1, 2, 2);
        due("both", x.solutions(2, ANY), 1);
        due("both cost", x.leastCost(2, ANY), 3);
        x.convert(0, 1, -1);
        due("right only", x.solutions(2, ANY), 0);
        x.convert(1, 0, 0);
        x.convert(2, 1, 0);
        due("right and the wrong ways round", x.solutions(2, ANY), 0);

        sentence("the conversion from the type of N to the wanted type is allowed");
        OverloadSolver y = new OverloadSolver();
        y.constant(2);
        due("not allowed", y.solutions(0, 1), 0);
        y.convert(1, 2, 0);
        due("the wrong way round", y.solutions(0, 1), 0);
        y.convert(2, 1, 7);
        due("allowed", y.solutions(0, 1), 1);
        due("its cost", y.leastCost(0, 1), 7);

        sentence("ANY, 3, as wanted type asks nothing and costs nothing");
        due("ANY", OverloadSolver.ANY, 3);
        for (int type = 0; type < 3; type++) {
            OverloadSolver z = new OverloadSolver();
            z.constant(type);
            due("solutions", z.solutions(0, 3), 1);
            z.convert(type, (type + 1) % 3, 9);
            z.convert(type, (type + 2) % 3, 9);
            due("leastCost", z.leastCost(0, 3), 0);
            due("solutions", z.solutions(0, 3), 1);
        }

        sentence("conversion is not made in two steps");
        OverloadSolver w = new OverloadSolver();
        w.constant(0);
        w.convert(0, 1, 1);
        w.convert(1, 2, 1);
        due("0 by 1 to 2", w.solutions(0, 2), 0);
        w.convert(0, 2, 9);
        due("the dearer straight way", w.leastCost(0, 2), 9);
    }

    private static void costTerms() {
        sentence("Its COST is the sum of the costs of the chosen signatures, of the literal costs of"
            + " the types chosen for literals, and of all those conversions");
        OverloadSolver least = wholeTree(0);
        due("the least cost there is", least.leastCost(6, 1), 0);
        due("one solution", least.solutions(6, 1), 1);
        OverloadSolver most = wholeTree(9);
        due("the greatest cost there is", most.leastCost(6, 1), 126);
        due("without the last conversion", most.leastCost(6, ANY), 117);
        due("with a last conversion to itself", most.leastCost(6, 0), 117);
        due("the greatest cost is counted", most.withCost(6, 1, 126), 1);
        due("one less", most.withCost(6, 1, 125), 0);
        due("one more", most.withCost(6, 1, 127), 0);
        due("a half", most.leastCost(4, ANY), 9 + 2 * 9 + 2 * 9);

        sentence("A BEST solution is one of least cost");
        OverloadSolver x = new OverloadSolver();
        x.literal(7);
        x.literalCost(0, 9);
        x.literalCost(1, 8);
        x.literalCost(2, 9);
        due("not the first, not the last", x.chosen(0, ANY, 0), 1);
        x.literalCost(2, 7);
        due("the last", x.chosen(0, ANY, 0), 2);
        x.literalCost(0, 0);
        due("the first", x.chosen(0, ANY, 0), 0);
    }

    // Two applications below a third, over four literals of type 0, with every conversion needed.
    private static OverloadSolver wholeTree(int cost) {
        OverloadSolver x = new OverloadSolver();
        x.convert(0, 1, cost);
        x.overload(0, 9 * 1 + 3 * 1 + 0, cost);
        x.literalCost(0, cost);
        for (int n = 0; n < 4; n++) {
            x.literal(1);
        }
        x.apply(0, 0, 1);
        x.apply(0, 2, 3);
        due("the top of the tree", x.apply(0, 4, 5), 6);
        return x;
    }

    // ---- promises 1 to 6: the settings

    private static void promise1NewObject() {
        sentence("1: No nodes at first");
        due("nodes", new OverloadSolver().nodes(), 0);
        due("clear", new OverloadSolver().clear(), 0);
        due("solutions", new OverloadSolver().solutions(0, ANY), -1);
        due("chosen", new OverloadSolver().chosen(0, ANY, 0), -1);
        due("apply", new OverloadSolver().apply(0, 0, 1), -2);
        due("the first node's number", new OverloadSolver().literal(1), 0);
    }

    private static void promise2Convert() {
        sentence("2: -1 if from or to is not in 0 .. 2");
        OverloadSolver x = new OverloadSolver();
        int[] off = {LOW, -1, 3, HIGH};
        for (int bad : off) {
            for (int good = 0; good < 3; good++) {
                due("from " + bad, x.convert(bad, good, 0), -1);
                due("to " + bad, x.convert(good, bad, 0), -1);
            }
        }

        sentence("2: -2 if they are the same");
        for (int type = 0; type < 3; type++) {
            due("0", x.convert(type, type, 0), -2);
            due("-1", x.convert(type, type, -1), -2);
            due("9", x.convert(type, type, 9), -2);
        }

        sentence("2: -3 if cost is not in -1 .. 9");
        for (int from = 0; from < 3; from++) {
            for (int to = 0; to < 3; to++) {
                if (from != to) {
                    due("MIN", x.convert(from, to, LOW), -3);
                    due("-2", x.convert(from, to, -2), -3);
                    due("-1", x.convert(from, to, -1), 0);
                    due("0", x.convert(from, to, 0), 0);
                    due("9", x.convert(from, to, 9), 0);
                    due("10", x.convert(from, to, 10), -3);
                    due("MAX", x.convert(from, to, HIGH), -3);
                }
            }
        }

        sentence("2: Sets the cost of conversion; cost -1 makes it not allowed");
        OverloadSolver y = new OverloadSolver();
        y.constant(0);
        y.constant(2);
        due("-1 where none is allowed", y.convert(0, 2, -1), 0);
        due("still none", y.solutions(0, 2), 0);
        y.convert(0, 2, 9);
        due("9", y.leastCost(0, 2), 9);
        y.convert(0, 2, 0);
        due("0 is allowed", y.solutions(0, 2), 1);
        due("0", y.leastCost(0, 2), 0);
        y.convert(2, 0, 5);
        y.convert(0, 2, -1);
        due("not allowed", y.solutions(0, 2), 0);
        due("not allowed, not a cost of -1", y.leastCost(0, 2), -3);
        due("the other way stays", y.leastCost(1, 0), 5);
        y.convert(0, 2, 4);
        due("allowed again", y.leastCost(0, 2), 4);
    }

    private static void promise3Overload() {
        sentence("3: -1 if op is not in 0 .. 2");
        OverloadSolver x = new OverloadSolver();
        int[] off = {LOW, -1, 3, HIGH};
        for (int bad : off) {
            due("op " + bad, x.overload(bad, 0, 0), -1);
        }
        for (int op = 0; op < 3; op++) {
            due("op " + op, x.overload(op, 0, 0), 1);
        }

        sentence("3: -2 if types is not in 0 .. 26");
        due("MIN", x.overload(0, LOW, 0), -2);
        due("-1", x.overload(0, -1, 0), -2);
        due("0", x.overload(0, 0, 0), 2);
        due("26", x.overload(0, 26, 0), 3);
        due("27", x.overload(0, 27, 0), -2);
        due("MAX", x.overload(0, HIGH, 0), -2);

        sentence("3: -3 if cost is not in 0 .. 9");
        due("MIN", x.overload(1, 0, LOW), -3);
        due("-1", x.overload(1, 0, -1), -3);
        due("0", x.overload(1, 0, 0), 2);
        due("9", x.overload(1, 0, 9), 3);
        due("10", x.overload(1, 0, 10), -3);
        due("MAX", x.overload(1, 0, HIGH), -3);

        sentence("3: types is 9 * left + 3 * right + result");
        for (int types = 0; types <= 26; types++) {
            OverloadSolver y = new OverloadSolver();
            y.overload(0, types, 0);
            for (int type = 0; type < 3; type++) {
                y.constant(type);
            }
            for (int type = 0; type < 3; type++) {
                y.constant(type);
            }
            due("apply", y.apply(0, types / 9, 3 + types / 3 % 3), 6);
            for (int wanted = 0; wanted < 3; wanted++) {
                due(types + " gives " + wanted, y.solutions(6, wanted), types % 3 == wanted ? 1 : 0);
            }
            int otherLeft = (types / 9 + 1) % 3;
            int otherRight = 3 + (types / 3 + 1) % 3;
            due("apply", y.apply(0, otherLeft, otherRight), 7);
            due(types + " for other types", y.solutions(7, ANY), 0);
        }
    }

    private static void promise3OverloadFull() {
        sentence("3: -4 if the list holds 4 signatures; otherwise answers how many it holds now");
        OverloadSolver x = new OverloadSolver();
        x.constant(0);
        x.constant(0);
        x.apply(1, 0, 1);
        for (int held = 1; held <= 4; held++) {
            due("overload", x.overload(1, 0, 5), held);
            due("solutions with " + held, x.solutions(2, ANY), held);
        }
        due("full", x.overload(1, 0, 5), -4);
        due("full again", x.overload(1, 0, 0), -4);
        due("solutions when full", x.solutions(2, ANY), 4);
        due("nothing cheaper came in", x.leastCost(2, ANY), 5);
        due("the list before has room", x.overload(0, 0, 0), 1);
        due("the list after has room", x.overload(2, 0, 0), 1);

        sentence("3: Puts a signature at the end of the operator's list");
        OverloadSolver y = new OverloadSolver();
        y.constant(0);
        y.constant(0);
        y.apply(2, 0, 1);
        for (int place = 0; place < 4; place++) {
            y.overload(2, 0, 9 - place);
            due("the newest is cheapest", y.chosen(2, ANY, 2), place);
        }
    }

    private static void promise4Forget() {
        sentence("4: -1 if op is not in 0 .. 2");
        OverloadSolver x = new OverloadSolver();
        int[] off = {LOW, -1, 3, HIGH};
        for (int bad : off) {
            due("op " + bad, x.forget(bad), -1);
        }

        sentence("4: otherwise answers how many signatures it held");
        for (int op = 0; op < 3; op++) {
            for (int held = 0; held <= 4; held++) {
                for (int k = 0; k < held; k++) {
                    x.overload(op, 0, 0);
                }
                due("op " + op + " with " + held, x.forget(op), held);
                due("op " + op + " when empty", x.forget(op), 0);
            }
        }

        sentence("4: Empties the operator's list");
        OverloadSolver y = new OverloadSolver();
        y.constant(0);
        y.constant(0);
        y.apply(1, 0, 1);
        for (int op = 0; op < 3; op++) {
            for (int k = 0; k < 4; k++) {
                y.overload(op, 0, 1);
            }
        }
        due("full", y.overload(1, 0, 1), -4);
        due("four", y.forget(1), 4);
        due("no signature is left", y.solutions(2, ANY), 0);
        due("room from the start", y.overload(1, 0, 6), 1);
        due("one is left", y.solutions(2, ANY), 1);
        due("position 0", y.chosen(2, ANY, 2), 0);
        due("the new one", y.leastCost(2, ANY), 6);
        due("another list stays", y.forget(0), 4);
        due("another list stays", y.forget(2), 4);
    }

    private static void promise5Declare() {
        sentence("5: -1 if v is not 0 or 1");
        OverloadSolver x = new OverloadSolver();
        int[] off = {LOW, -1, 2, HIGH};
        for (int bad : off) {
            due("v " + bad, x.declare(bad, 1), -1);
        }

        sentence("5: -2 if set is not in 1 .. 7");
        for (int v = 0; v < 2; v++) {
            due("MIN", x.declare(v, LOW), -2);
            due("-1", x.declare(v, -1), -2);
            due("0", x.declare(v, 0), -2);
            due("1", x.declare(v, 1), 7);
            due("7", x.declare(v, 7), 1);
            due("8", x.declare(v, 8), -2);
            due("9", x.declare(v, 9), -2);
            due("MAX", x.declare(v, HIGH), -2);
        }

        sentence("5: otherwise answers the set before");
        due("v 0", x.declare(0, 5), 7);
        due("v 1", x.declare(1, 2), 7);
        due("v 0", x.declare(0, 5), 5);
        due("v 0", x.declare(0, 3), 5);
        due("v 1", x.declare(1, 7), 2);
        due("v 0", x.declare(0, 7), 3);

        sentence("5: Sets the set of a variable");
        x.use(1);
        x.use(0);
        x.declare(1, 1);
        due("one type", x.solutions(0, ANY), 1);
        due("the other variable", x.solutions(1, ANY), 3);
        x.declare(1, 6);
        due("two types", x.solutions(0, ANY), 2);
    }

    private static void promise6LiteralCost() {
        sentence("6: -1 if type is not in 0 .. 2");
        OverloadSolver x = new OverloadSolver();
        int[] off = {LOW, -1, 3, HIGH};
        for (int bad : off) {
            due("type " + bad, x.literalCost(bad, 0), -1);
        }

        sentence("6: -2 if cost is not in 0 .. 9; otherwise 0");
        for (int type = 0; type < 3; type++) {
            due("MIN", x.literalCost(type, LOW), -2);
            due("-1", x.literalCost(type, -1), -2);
            due("0", x.literalCost(type, 0), 0);
            due("9", x.literalCost(type, 9), 0);
            due("10", x.literalCost(type, 10), -2);
            due("MAX", x.literalCost(type, HIGH), -2);
        }

        sentence("6: Sets the literal cost of a type");
        x.literal(7);
        x.use(0);
        x.constant(2);
        for (int type = 0; type < 3; type++) {
            due("9", x.leastCost(0, type), 9);
            due("a use has none", x.leastCost(1, type), 0);
        }
        due("a constant has none", x.leastCost(2, 2), 0);
        x.literalCost(2, 0);
        due("0", x.leastCost(0, 2), 0);
        due("the others stay", x.leastCost(0, 1), 9);
    }

    // ---- promises 7 to 12: the nodes

    private static void promise7Literal() {
        sentence("7: -1 if set is not in 1 .. 7");
        OverloadSolver x = new OverloadSolver();
        int[] off = {LOW, -1, 0, 8, 9, HIGH};
        for (int bad : off) {
            due("set " + bad, x.literal(bad), -1);
        }
        due("set 1", x.literal(1), 0);
        due("set 7", x.literal(7), 1);

        sentence("7: -2 if there are 12 nodes; otherwise answers the node's number");
        for (int n = 2; n < 12; n++) {
            due("literal", x.literal(n % 7 + 1), n);
        }
        due("literal when full", x.literal(1), -2);
        due("literal when full", x.literal(7), -2);
        due("the twelfth is a literal", x.solutions(11, ANY), Integer.bitCount(11 % 7 + 1));
        x.clear();
        due("room again", x.literal(1), 0);
    }

    private static void promise8Use() {
        sentence("8: -1 if v is not 0 or 1");
        OverloadSolver x = new OverloadSolver();
        int[] off = {LOW, -1, 2, HIGH};
        for (int bad : off) {
            due("v " + bad, x.use(bad), -1);
        }
        due("v 0", x.use(0), 0);
        due("v 1", x.use(1), 1);

        sentence("8: -2 if there are 12 nodes; otherwise answers the node's number");
        for (int n = 2; n < 12; n++) {
            due("use", x.use(n % 2), n);
        }
        due("use when full", x.use(0), -2);
        due("use when full", x.use(1), -2);
        x.declare(1, 2);
        due("the twelfth is a use of 1", x.typeOf(11, ANY), 1);
        due("the eleventh is a use of 0", x.solutions(10, ANY), 3);
        x.clear();
        due("room again", x.use(0), 0);
    }

    private static void promise9Constant() {
        sentence("9: -1 if type is not in 0 .. 2");
        OverloadSolver x = new OverloadSolver();
        int[] off = {LOW, -1, 3, HIGH};
        for (int bad : off) {
            due("type " + bad, x.constant(bad), -1);
        }
        due("type 0", x.constant(0), 0);
        due("type 2", x.constant(2), 1);

        sentence("9: -2 if there are 12 nodes; otherwise answers the node's number");
        for (int n = 2; n < 12; n++) {
            due("constant", x.constant(n % 3), n);
        }
        due("constant when full", x.constant(0), -2);
        due("constant when full", x.constant(2), -2);
        due("the twelfth has type 2", x.typeOf(11, ANY), 2);
        x.clear();
        due("room again", x.constant(0), 0);
    }

    private static void promise10ApplyRanges() {
        sentence("10: -1 if op is not in 0 .. 2");
        OverloadSolver x = new OverloadSolver();
        for (int n = 0; n < 6; n++) {
            x.constant(0);
        }
        int[] off = {LOW, -1, 3, HIGH};
        for (int bad : off) {
            due("op " + bad, x.apply(bad, 0, 1), -1);
        }

        sentence("10: -2 if left or right is not the number of a node");
        int[] none = {LOW, -1, 6, 7, 11, 12, HIGH};
        for (int bad : none) {
            due("left " + bad, x.apply(0, bad, 0), -2);
            due("right " + bad, x.apply(0, 0, bad), -2);
        }

        sentence("10: otherwise answers the node's number");
        due("the first and the last node", x.apply(0, 0, 5), 6);
        due("left after right", x.apply(1, 4, 1), 7);
        due("op 2", x.apply(2, 2, 3), 8);
        x.overload(0, 0, 1);
        x.overload(1, 0, 2);
        x.overload(2, 0, 3);
        due("of operator 0", x.leastCost(6, ANY), 1);
        due("of operator 1", x.leastCost(7, ANY), 2);
        due("of operator 2", x.leastCost(8, ANY), 3);

        sentence("10: a number that was a node's before clear is not one");
        x.clear();
        due("no nodes", x.apply(0, 0, 1), -2);
        x.constant(0);
        due("one node", x.apply(0, 0, 1), -2);
        due("one node", x.apply(0, 1, 0), -2);
    }

    private static void promise10ApplyTaken() {
        sentence("10: -3 if left and right are the same");
        OverloadSolver x = new OverloadSolver();
        for (int n = 0; n < 6; n++) {
            x.constant(0);
        }
        for (int n = 0; n < 6; n++) {
            due("same", x.apply(0, n, n), -3);
        }

        sentence("10: or one of them is part of an application already (as its left or right node)");
        due("apply", x.apply(0, 1, 3), 6);
        due("left was left", x.apply(0, 1, 0), -3);
        due("left was right", x.apply(0, 3, 0), -3);
        due("right was left", x.apply(0, 0, 1), -3);
        due("right was right", x.apply(0, 0, 3), -3);
        due("both as before", x.apply(0, 1, 3), -3);
        due("both the other way round", x.apply(0, 3, 1), -3);
        due("under another operator", x.apply(1, 0, 1), -3);
        due("above a part of its own", x.apply(0, 6, 1), -3);
        due("above a part of its own", x.apply(0, 3, 6), -3);
        due("the application itself is free", x.apply(0, 6, 0), 7);
        due("now it is not", x.apply(0, 6, 2), -3);
        due("nor is the other", x.apply(0, 2, 0), -3);
        due("the rest is free", x.apply(0, 4, 2), 8);

        sentence("10: a node made after clear is not part of an application");
        x.clear();
        for (int n = 0; n < 4; n++) {
            x.constant(0);
        }
        due("1 and 3 again", x.apply(0, 1, 3), 4);
        due("0 and 2 again", x.apply(0, 0, 2), 5);
    }

    private static void promise10ApplyFull() {
        sentence("10: -4 if there are 12 nodes");
        OverloadSolver x = new OverloadSolver();
        for (int n = 0; n < 11; n++) {
            x.constant(0);
        }
        due("the twelfth", x.apply(0, 0, 10), 11);
        due("the thirteenth", x.apply(0, 1, 2), -4);
        due("the thirteenth, above the twelfth", x.apply(0, 11, 1), -4);
        due("the last node", x.solutions(11, ANY), 0);

        sentence("10: -4 if there are 3 applications");
        OverloadSolver y = new OverloadSolver();
        for (int n = 0; n < 8; n++) {
            y.constant(0);
        }
        due("1", y.apply(0, 0, 1), 8);
        due("2", y.apply(0, 2, 3), 9);
        due("3", y.apply(0, 4, 5), 10);
        due("4", y.apply(0, 6, 7), -4);
        due("4, above the others", y.apply(0, 8, 9), -4);
        due("the twelfth node", y.constant(0), 11);
        due("12 nodes and 3 applications", y.apply(0, 6, 7), -4);
        y.clear();
        for (int n = 0; n < 8; n++) {
            y.constant(0);
        }
        due("1 again", y.apply(0, 0, 1), 8);
        due("2 again", y.apply(0, 2, 3), 9);
        due("3 again", y.apply(0, 4, 5), 10);
        due("4 again", y.apply(0, 6, 7), -4);
    }

    private static void promise11Clear() {
        sentence("11: answers how many there were");
        OverloadSolver x = new OverloadSolver();
        for (int count = 0; count <= 12; count++) {
            for (int n = 0; n < count; n++) {
                due("number", x.literal(1), n);
            }
            due("clear", x.clear(), count);
        }
        due("clear when empty", x.clear(), 0);

        sentence("11: Takes all nodes away");
        for (int n = 0; n < 9; n++) {
            x.constant(n % 3);
        }
        x.apply(0, 0, 1);
        x.apply(0, 2, 3);
        x.apply(0, 4, 5);
        due("clear", x.clear(), 12);
        due("nodes", x.nodes(), 0);
        for (int n = 0; n < 12; n++) {
            due("solutions of " + n, x.solutions(n, ANY), -1);
        }
        due("the next is the first", x.constant(2), 0);
        due("and has its own type", x.typeOf(0, ANY), 2);

        sentence("11: nothing but nodes is taken away");
        OverloadSolver y = new OverloadSolver();
        y.convert(0, 1, 3);
        y.overload(2, 12, 4);
        y.declare(0, 1);
        y.literalCost(0, 5);
        y.clear();
        y.literal(1);
        y.use(0);
        y.apply(2, 0, 1);
        due("all costs stay", y.leastCost(2, ANY), 5 + 3 + 3 + 4);
        due("the set stays", y.declare(0, 7), 1);
        due("the list stays", y.forget(2), 1);
    }

    private static void promise12Nodes() {
        sentence("12: How many nodes there are");
        OverloadSolver x = new OverloadSolver();
        due("none", x.nodes(), 0);
        for (int n = 1; n <= 9; n++) {
            x.constant(0);
            due("nodes", x.nodes(), n);
        }
        for (int n = 0; n < 3; n++) {
            x.apply(0, 2 * n, 2 * n + 1);
            due("nodes", x.nodes(), 10 + n);
        }
        x.literal(1);
        x.use(0);
        x.constant(0);
        x.apply(0, 6, 7);
        due("still 12", x.nodes(), 12);
        x.clear();
        due("none again", x.nodes(), 0);
        x.use(1);
        due("one again", x.nodes(), 1);
    }

    // ---- promises 13 to 18: the questions

    private static void noSuchNode() {
        for (int count = 0; count <= 12; count += 4) {
            OverloadSolver x = new OverloadSolver();
            for (int n = 0; n < count; n++) {
                x.constant(0);
            }
            int[] off = {LOW, -1, count, 12, 13, HIGH};
            for (int bad : off) {
                String node = "node " + bad + " of " + count;
                sentence("13: -1 if there is no such node");
                due(node, x.solutions(bad, 0), -1);
                sentence("14: -1 if there is no such node");
                due(node, x.leastCost(bad, 0), -1);
                sentence("15: -1 if there is no such node");
                due(node, x.bestCount(bad, 0), -1);
                sentence("16: -1 if there is no such node");
                due(node, x.withCost(bad, 0, 0), -1);
                sentence("17: -1 if there is no such node");
                due(node, x.chosen(bad, 0, 0), -1);
                sentence("18: -1 if there is no such node");
                due(node, x.typeOf(bad, 0), -1);
            }
            for (int n = 0; n < count; n += count - 1) {
                due("solutions of " + n, x.solutions(n, 0), 1);
                due("leastCost of " + n, x.leastCost(n, 0), 0);
                due("bestCount of " + n, x.bestCount(n, 0), 1);
                due("withCost of " + n, x.withCost(n, 0, 0), 1);
                due("chosen of " + n, x.chosen(n, 0, n), 0);
                due("typeOf of " + n, x.typeOf(n, 0), 0);
            }
        }
    }

    private static void wantedOutOfRange() {
        OverloadSolver x = new OverloadSolver();
        x.constant(0);
        x.convert(0, 1, 0);
        x.convert(0, 2, 0);
        int[] off = {LOW, -1, 4, HIGH};
        for (int bad : off) {
            sentence("13: -2 if wanted is not in 0 .. 3");
            due("wanted " + bad, x.solutions(0, bad), -2);
            sentence("14: -2 if wanted is not in 0 .. 3");
            due("wanted " + bad, x.leastCost(0, bad), -2);
            sentence("15: -2 if wanted is not in 0 .. 3");
            due("wanted " + bad, x.bestCount(0, bad), -2);
            sentence("16: -2 if wanted is not in 0 .. 3");
            due("wanted " + bad, x.withCost(0, bad, 0), -2);
            sentence("17: -2 if wanted is not in 0 .. 3");
            due("wanted " + bad, x.chosen(0, bad, 0), -2);
            sentence("18: -2 if wanted is not in 0 .. 3");
            due("wanted " + bad, x.typeOf(0, bad), -2);
        }
        for (int wanted = 0; wanted <= 3; wanted++) {
            due("solutions, " + wanted, x.solutions(0, wanted), 1);
            due("leastCost, " + wanted, x.leastCost(0, wanted), 0);
            due("bestCount, " + wanted, x.bestCount(0, wanted), 1);
            due("withCost, " + wanted, x.withCost(0, wanted, 0), 1);
            due("chosen, " + wanted, x.chosen(0, wanted, 0), 0);
            due("typeOf, " + wanted, x.typeOf(0, wanted), 0);
        }
    }

    // Three applications over four literals of any type; every conversion is allowed and all is
    // free, so that every way to choose is a best solution.
    private static OverloadSolver mostSolutions() {
        OverloadSolver x = new OverloadSolver();
        for (int from = 0; from < 3; from++) {
            x.convert(from, (from + 1) % 3, 0);
            x.convert(from, (from + 2) % 3, 0);
        }
        for (int op = 0; op < 3; op++) {
            for (int k = 0; k < 4; k++) {
                x.overload(op, 26 - 5 * k, 0);
            }
        }
        for (int n = 0; n < 9; n++) {
            x.literal(7);
        }
        x.apply(0, 8, 0);
        x.apply(1, 1, 9);
        due("the twelfth node", x.apply(2, 10, 7), 11);
        return x;
    }

    private static void promise13Solutions() {
        sentence("13: How many solutions there are for the node and the wanted type");
        OverloadSolver x = mostSolutions();
        due("the most there can be", x.solutions(11, ANY), 81 * 64);
        due("the most there can be, wanted", x.solutions(11, 2), 81 * 64);
        OverloadSolver y = new OverloadSolver();
        y.constant(1);
        y.literal(1);
        due("one", y.solutions(0, ANY), 1);
        due("one", y.solutions(0, 1), 1);
        due("none", y.solutions(0, 0), 0);
        y.apply(0, 0, 1);
        due("an empty list", y.solutions(2, ANY), 0);
        y.overload(0, 26, 0);
        due("a list where nothing fits", y.solutions(2, ANY), 0);
        y.overload(0, 9, 0);
        due("a list where the last fits", y.solutions(2, ANY), 1);

        sentence("13: two uses choose once, two equal signatures are two choices");
        OverloadSolver z = new OverloadSolver();
        z.use(0);
        z.use(0);
        z.apply(0, 0, 1);
        z.overload(0, 0, 0);
        z.overload(0, 0, 0);
        due("solutions", z.solutions(2, ANY), 2);
    }

    private static void promise14LeastCost() {
        sentence("14: The least cost of a solution");
        OverloadSolver x = new OverloadSolver();
        x.literal(7);
        x.literalCost(0, 9);
        x.literalCost(1, 9);
        x.literalCost(2, 9);
        due("all at 9", x.leastCost(0, ANY), 9);
        x.literalCost(2, 8);
        due("one at 8", x.leastCost(0, ANY), 8);
        due("its cost is no solution for 0", x.leastCost(0, 0), 9);
        x.convert(2, 0, 1);
        due("equally dear", x.leastCost(0, 0), 9);
        x.convert(2, 0, 0);
        due("cheaper by conversion", x.leastCost(0, 0), 8);
        due("the most solutions there can be", mostSolutions().leastCost(11, 0), 0);

        sentence("14: -3 if there is no solution");
        OverloadSolver y = new OverloadSolver();
        y.constant(0);
        y.constant(1);
        y.apply(0, 0, 1);
        due("the wanted type", y.leastCost(0, 1), -3);
        due("an empty list", y.leastCost(2, ANY), -3);
        y.overload(0, 0, 0);
        due("the right node does not fit", y.leastCost(2, ANY), -3);
        y.overload(0, 12, 0);
        due("the left node does not fit", y.leastCost(2, ANY), -3);
        y.overload(0, 3, 0);
        due("a solution of cost 0", y.leastCost(2, ANY), 0);
        due("but not for 2", y.leastCost(2, 2), -3);
    }

    private static void promise15BestCount() {
        sentence("15: How many best solutions there are");
        OverloadSolver x = mostSolutions();
        due("the most there can be", x.bestCount(11, ANY), 81 * 64);
        due("a literal", x.bestCount(3, ANY), 3);
        x.literalCost(0, 1);
        due("all but one", x.bestCount(3, ANY), 2);
        x.literalCost(1, 1);
        due("exactly one", x.bestCount(3, ANY), 1);
        due("exactly one choice of types", x.bestCount(11, ANY), 64);

        sentence("15: 0 if there is no solution");
        OverloadSolver y = new OverloadSolver();
        y.constant(0);
        y.constant(0);
        y.apply(0, 0, 1);
        due("the wanted type", y.bestCount(0, 2), 0);
        due("an empty list", y.bestCount(2, ANY), 0);
        y.overload(0, 26, 0);
        due("nothing fits", y.bestCount(2, ANY), 0);
    }

    private static void promise16WithCost() {
        sentence("16: How many solutions have just this cost");
        OverloadSolver x = mostSolutions();
        due("the most there can be", x.withCost(11, ANY, 0), 81 * 64);
        due("none at 1", x.withCost(11, ANY, 1), 0);
        x.literalCost(2, 1);
        int[] due = {16 * 64, 32 * 64, 24 * 64, 8 * 64, 64, 0};
        for (int cost = 0; cost < due.length; cost++) {
            due("cost " + cost, x.withCost(11, ANY, cost), due[cost]);
        }

        sentence("16: a cost that no solution can have");
        int[] far = {LOW, LOW + 4, -256, -3, -2, -1, 10, 126, 127, 128, 256, 65536, HIGH};
        for (int cost : far) {
            due("cost " + cost, x.withCost(0, ANY, cost), 0);
        }

        sentence("16: no solution");
        OverloadSolver y = new OverloadSolver();
        y.constant(0);
        int[] any = {-3, -1, 0, 9, 126};
        for (int cost : any) {
            due("cost " + cost, y.withCost(0, 1, cost), 0);
        }
    }

    private static void promise17ChosenValues() {
        sentence("17: for a literal the type");
        OverloadSolver x = new OverloadSolver();
        for (int type = 0; type < 3; type++) {
            x.literal(1 << type);
            due("literal", x.chosen(type, ANY, type), type);
        }

        sentence("17: for a use the variable's type");
        for (int v = 0; v < 2; v++) {
            int use = x.use(v);
            for (int type = 0; type < 3; type++) {
                x.declare(v, 1 << type);
                due("use", x.chosen(use, ANY, use), type);
            }
        }

        sentence("17: for a constant its type");
        for (int type = 0; type < 3; type++) {
            int node = x.constant(type);
            due("constant", x.chosen(node, ANY, node), type);
        }

        sentence("17: for an application the position of the signature");
        OverloadSolver y = new OverloadSolver();
        y.constant(0);
        y.constant(0);
        y.apply(0, 0, 1);
        y.overload(0, 26, 0);
        y.overload(0, 17, 0);
        y.overload(0, 8, 0);
        y.overload(0, 2, 9);
        due("the last position", y.chosen(2, ANY, 2), 3);
        due("not the result type", y.typeOf(2, ANY), 2);
        y.forget(0);
        y.overload(0, 2, 9);
        due("the first position", y.chosen(2, ANY, 2), 0);

        sentence("17: What the only best solution for the node and the wanted type chooses for a part");
        OverloadSolver w = new OverloadSolver();
        w.overload(0, 0, 1);
        w.overload(0, 9, 0);
        w.overload(1, 0, 9);
        w.overload(1, 6, 9);
        w.overload(1, 3, 9);
        w.literal(7);
        w.constant(0);
        w.apply(0, 0, 1);
        w.use(0);
        w.declare(0, 2);
        w.apply(1, 2, 3);
        int[] choices = {1, 0, 1, 1, 2};
        for (int part = 0; part < 5; part++) {
            due("part " + part, w.chosen(4, 0, part), choices[part]);
        }
        due("a literal for another node", w.chosen(0, 2, 0), 2);

        sentence("17: what the solution chooses, not what it is converted to");
        OverloadSolver z = new OverloadSolver();
        z.constant(0);
        z.literal(1);
        z.convert(0, 2, 0);
        due("constant", z.chosen(0, 2, 0), 0);
        due("literal", z.chosen(1, 2, 1), 0);
    }

    private static void promise17ChosenParts() {
        sentence("17: -3 if part is not the number of a part of the node");
        OverloadSolver x = new OverloadSolver();
        x.overload(0, 0, 0);
        for (int n = 0; n < 5; n++) {
            x.constant(0);
        }
        x.apply(0, 0, 1);
        x.apply(0, 5, 2);
        int[] none = {LOW, -1, 7, 8, 11, 12, 13, 14, HIGH};
        for (int bad : none) {
            due("part " + bad, x.chosen(6, ANY, bad), -3);
            due("part " + bad + " of a leaf", x.chosen(0, ANY, bad), -3);
        }
        due("a leaf beside", x.chosen(6, ANY, 3), -3);
        due("a leaf of another application", x.chosen(5, ANY, 2), -3);
        due("the application above", x.chosen(5, ANY, 6), -3);
        due("the application above a leaf", x.chosen(0, ANY, 5), -3);
        due("another leaf", x.chosen(0, ANY, 1), -3);
        due("itself", x.chosen(6, ANY, 6), 0);
        due("a part of a part", x.chosen(6, ANY, 0), 0);

        sentence("17: a part before clear is not a part");
        x.clear();
        x.constant(0);
        x.constant(0);
        due("5", x.chosen(0, ANY, 5), -3);
        due("1", x.chosen(0, ANY, 1), -3);
    }

    private static void promise17ChosenOnlyBest() {
        sentence("17: -4 if there is not exactly one best solution");
        OverloadSolver x = new OverloadSolver();
        x.literal(3);
        x.constant(2);
        x.apply(0, 0, 1);
        due("no solution", x.chosen(2, ANY, 2), -4);
        due("no solution, a constant all the same", x.chosen(2, ANY, 1), -4);
        due("no solution for the wanted type", x.chosen(1, 0, 1), -4);
        due("two best", x.chosen(0, ANY, 0), -4);
        x.literalCost(0, 1);
        due("one best", x.chosen(0, ANY, 0), 1);
        x.overload(0, 6, 3);
        due("one solution", x.chosen(2, ANY, 2), 0);
        x.overload(0, 15, 4);
        due("two best, one cost in two ways", x.chosen(2, ANY, 2), -4);
        due("two best that agree on the part", x.chosen(2, ANY, 1), -4);
        x.overload(0, 15, 3);
        due("one best, two second", x.chosen(2, ANY, 2), 2);
        due("one best, its literal", x.chosen(2, ANY, 0), 1);
        due("many solutions", x.solutions(2, ANY), 3);
    }

    private static void promise18TypeOf() {
        sentence("18: The type of the node in the only best solution");
        OverloadSolver x = new OverloadSolver();
        for (int type = 0; type < 3; type++) {
            x.constant(type);
            due("constant", x.typeOf(type, ANY), type);
        }
        x.literal(4);
        due("literal", x.typeOf(3, ANY), 2);
        x.use(1);
        x.declare(1, 4);
        due("use", x.typeOf(4, ANY), 2);
        x.apply(1, 3, 4);
        x.overload(1, 26, 1);
        x.overload(1, 24, 0);
        due("application: the result type", x.typeOf(5, ANY), 0);
        due("of the solution for the wanted type", x.typeOf(5, 2), 2);
        x.convert(0, 2, 0);
        due("not the wanted type", x.typeOf(5, 2), 0);

        sentence("18: -4 if there is not exactly one best solution");
        due("no solution", x.typeOf(5, 1), -4);
        x.convert(0, 2, 1);
        due("two best", x.typeOf(5, 2), -4);
        x.overload(1, 24, 0);
        due("two best of one type", x.typeOf(5, ANY), -4);
        x.forget(1);
        due("an empty list", x.typeOf(5, ANY), -4);
        x.declare(1, 5);
        due("a use with two types", x.typeOf(4, ANY), -4);
        due("one of them wanted", x.typeOf(4, 0), 0);
    }
}
