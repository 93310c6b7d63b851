// For each promise of the document: ordinary inputs, the edges it names, and wrong inputs.
public final class PromisesTest {
    private static final int ANY = OverloadSolver.ANY;
    private static final int LOW = Integer.MIN_VALUE;
    private static final int HIGH = Integer.MAX_VALUE;

    private static int wrong = 0;

    private static void due(String what, int got, int want) {
        if (got != want) {
            wrong++;
            System.out.println(what + " answered " + got + ", due is " + want);
        }
    }

    public static void main(String[] args) {
        newObject();
        convert();
        convertCounts();
        overload();
        overloadTypes();
        forget();
        declare();
        literalCost();
        literal();
        use();
        constant();
        apply();
        applyLimits();
        clear();
        nodes();
        solutions();
        sharedVariable();
        leastCost();
        dearestSolution();
        bestCount();
        withCost();
        chosen();
        typeOf();
        questionsChangeNothing();
        refusalsChangeNothing();
        laterChangesCount();
        objectsAreApart();
        System.out.println(wrong == 0 ? "all promises hold" : wrong + " answers are not as due");
        if (wrong != 0) {
            System.exit(1);
        }
    }

    private static void newObject() {
        OverloadSolver x = new OverloadSolver();
        due("1: nodes", x.nodes(), 0);
        due("1: clear", x.clear(), 0);
        due("1: solutions of no node", x.solutions(0, ANY), -1);
        due("1: ANY", OverloadSolver.ANY, 3);
        for (int op = 0; op < 3; op++) {
            due("1: forget " + op, x.forget(op), 0);
        }
        for (int v = 0; v < 2; v++) {
            due("1: declare " + v, x.declare(v, 7), 7);
        }
        for (int from = 0; from < 3; from++) {
            int node = x.constant(from);
            int free = x.literal(1 << from);
            due("1: literal cost " + from, x.leastCost(free, ANY), 0);
            for (int to = 0; to < 3; to++) {
                due("1: conversion " + from + " to " + to, x.leastCost(node, to), from == to ? 0 : -3);
            }
        }
    }

    private static void convert() {
        OverloadSolver x = new OverloadSolver();
        int[] off = {LOW, -1, 3, HIGH};
        for (int bad : off) {
            due("2: from " + bad, x.convert(bad, 0, 1), -1);
            due("2: to " + bad, x.convert(0, bad, 1), -1);
            due("2: same and off " + bad, x.convert(bad, bad, 99), -1);
        }
        int[] cost = {LOW, -2, 10, HIGH};
        for (int bad : cost) {
            due("2: cost " + bad, x.convert(1, 2, bad), -3);
            due("2: same before cost " + bad, x.convert(1, 1, bad), -2);
        }
        for (int t = 0; t < 3; t++) {
            due("2: same " + t, x.convert(t, t, 0), -2);
            due("2: same, not allowed " + t, x.convert(t, t, -1), -2);
        }
    }

    private static void convertCounts() {
        OverloadSolver x = new OverloadSolver();
        for (int from = 0; from < 3; from++) {
            x.constant(from);
        }
        for (int from = 0; from < 3; from++) {
            for (int to = 0; to < 3; to++) {
                if (from != to) {
                    due("2: convert", x.convert(from, to, 2 * from + to), 0);
                }
            }
        }
        for (int from = 0; from < 3; from++) {
            for (int to = 0; to < 3; to++) {
                due("2: cost " + from + to, x.leastCost(from, to), from == to ? 0 : 2 * from + to);
            }
        }
        due("2: cost 9", x.convert(0, 1, 9), 0);
        due("2: cost 9 counts", x.leastCost(0, 1), 9);
        due("2: cost 0", x.convert(0, 1, 0), 0);
        due("2: cost 0 counts", x.leastCost(0, 1), 0);
        due("2: cost -1", x.convert(0, 1, -1), 0);
        due("2: not allowed any more", x.leastCost(0, 1), -3);
        due("2: the way back stays", x.leastCost(1, 0), 2);
        due("2: a chain is no conversion", x.solutions(0, 1), 0);
    }

    private static void overload() {
        OverloadSolver x = new OverloadSolver();
        int[] op = {LOW, -1, 3, HIGH};
        for (int bad : op) {
            due("3: op " + bad, x.overload(bad, 99, 99), -1);
        }
        int[] types = {LOW, -1, 27, HIGH};
        for (int bad : types) {
            due("3: types " + bad, x.overload(0, bad, 99), -2);
        }
        int[] cost = {LOW, -1, 10, HIGH};
        for (int bad : cost) {
            due("3: cost " + bad, x.overload(0, 0, bad), -3);
        }
        for (int k = 1; k <= 4; k++) {
            due("3: signature " + k, x.overload(2, 26, 9), k);
        }
        due("3: full", x.overload(2, 0, 0), -4);
        due("3: cost before full", x.overload(2, 0, 10), -3);
        due("3: types before full", x.overload(2, 27, 0), -2);
        due("3: the other lists have room", x.overload(1, 0, 0), 1);
        due("3: the other lists have room", x.overload(0, 0, 0), 1);
    }

    private static void overloadTypes() {
        for (int types = 0; types < 27; types++) {
            OverloadSolver x = new OverloadSolver();
            int left = x.literal(7);
            int right = x.literal(7);
            int node = x.apply(1, left, right);
            due("3: overload", x.overload(1, types, types % 10), 1);
            due("3: left of " + types, x.chosen(node, ANY, left), types / 9);
            due("3: right of " + types, x.chosen(node, ANY, right), types / 3 % 3);
            due("3: result of " + types, x.typeOf(node, ANY), types % 3);
            due("3: cost of " + types, x.leastCost(node, ANY), types % 10);
            due("3: place of " + types, x.chosen(node, ANY, node), 0);
        }
    }

    private static void forget() {
        OverloadSolver x = new OverloadSolver();
        int[] op = {LOW, -1, 3, HIGH};
        for (int bad : op) {
            due("4: op " + bad, x.forget(bad), -1);
        }
        x.overload(0, 0, 5);
        x.overload(1, 0, 6);
        for (int k = 0; k < 4; k++) {
            x.overload(2, 0, k);
        }
        int node = x.apply(2, x.constant(0), x.constant(0));
        due("4: before", x.solutions(node, ANY), 4);
        due("4: four", x.forget(2), 4);
        due("4: none", x.forget(2), 0);
        due("4: no solution", x.solutions(node, ANY), 0);
        due("4: room again", x.overload(2, 0, 8), 1);
        due("4: only the new one", x.leastCost(node, ANY), 8);
        due("4: others stay", x.forget(0), 1);
        due("4: others stay", x.forget(1), 1);
    }

    private static void declare() {
        OverloadSolver x = new OverloadSolver();
        int[] v = {LOW, -1, 2, HIGH};
        for (int bad : v) {
            due("5: v " + bad, x.declare(bad, 0), -1);
        }
        int[] set = {LOW, -1, 0, 8, HIGH};
        for (int bad : set) {
            due("5: set " + bad, x.declare(1, bad), -2);
        }
        int node = x.use(1);
        int other = x.use(0);
        int before = 7;
        for (int now = 1; now <= 7; now++) {
            due("5: set before", x.declare(1, now), before);
            before = now;
            due("5: types of " + now, x.solutions(node, ANY), Integer.bitCount(now));
            for (int t = 0; t < 3; t++) {
                due("5: type " + t + " of " + now, x.solutions(node, t), now >> t & 1);
            }
            due("5: the other stays", x.solutions(other, ANY), 3);
        }
        due("5: the other", x.declare(0, 3), 7);
        due("5: the other again", x.declare(0, 7), 3);
    }

    private static void literalCost() {
        OverloadSolver x = new OverloadSolver();
        int[] type = {LOW, -1, 3, HIGH};
        for (int bad : type) {
            due("6: type " + bad, x.literalCost(bad, 99), -1);
        }
        int[] cost = {LOW, -1, 10, HIGH};
        for (int bad : cost) {
            due("6: cost " + bad, x.literalCost(2, bad), -2);
        }
        int node = x.literal(7);
        int use = x.use(0);
        int constant = x.constant(0);
        due("6: 0", x.literalCost(0, 9), 0);
        due("6: 1", x.literalCost(1, 4), 0);
        due("6: 2", x.literalCost(2, 6), 0);
        due("6: cost of 0", x.leastCost(node, 0), 9);
        due("6: cost of 1", x.leastCost(node, 1), 4);
        due("6: cost of 2", x.leastCost(node, 2), 6);
        due("6: a use costs nothing", x.leastCost(use, 0), 0);
        due("6: a constant costs nothing", x.leastCost(constant, 0), 0);
        due("6: back to 0", x.literalCost(0, 0), 0);
        due("6: cost 0", x.leastCost(node, ANY), 0);
    }

    private static void literal() {
        OverloadSolver x = new OverloadSolver();
        int[] set = {LOW, -1, 0, 8, HIGH};
        for (int bad : set) {
            due("7: set " + bad, x.literal(bad), -1);
        }
        for (int s = 1; s <= 7; s++) {
            int node = x.literal(s);
            due("7: number", node, s - 1);
            due("7: types of " + s, x.solutions(node, ANY), Integer.bitCount(s));
            for (int t = 0; t < 3; t++) {
                due("7: type " + t + " of " + s, x.solutions(node, t), s >> t & 1);
            }
        }
        fill(x);
        due("7: full", x.literal(7), -2);
        due("7: set before full", x.literal(0), -1);
    }

    private static void use() {
        OverloadSolver x = new OverloadSolver();
        int[] v = {LOW, -1, 2, HIGH};
        for (int bad : v) {
            due("8: v " + bad, x.use(bad), -1);
        }
        due("8: number", x.use(0), 0);
        due("8: number", x.use(1), 1);
        x.declare(0, 1);
        x.declare(1, 4);
        due("8: variable 0", x.typeOf(0, ANY), 0);
        due("8: variable 1", x.typeOf(1, ANY), 2);
        fill(x);
        due("8: full", x.use(0), -2);
        due("8: v before full", x.use(2), -1);
    }

    private static void constant() {
        OverloadSolver x = new OverloadSolver();
        int[] type = {LOW, -1, 3, HIGH};
        for (int bad : type) {
            due("9: type " + bad, x.constant(bad), -1);
        }
        for (int t = 0; t < 3; t++) {
            due("9: number", x.constant(t), t);
            due("9: type", x.typeOf(t, ANY), t);
            due("9: one solution", x.solutions(t, ANY), 1);
        }
        fill(x);
        due("9: full", x.constant(2), -2);
        due("9: type before full", x.constant(3), -1);
    }

    private static void apply() {
        OverloadSolver x = new OverloadSolver();
        due("10: no nodes yet", x.apply(0, 0, 1), -2);
        for (int n = 0; n < 4; n++) {
            x.constant(0);
        }
        int[] op = {LOW, -1, 3, HIGH};
        for (int bad : op) {
            due("10: op " + bad, x.apply(bad, -1, -1), -1);
        }
        int[] node = {LOW, -1, 4, 11, 12, HIGH};
        for (int bad : node) {
            due("10: left " + bad, x.apply(0, bad, 0), -2);
            due("10: right " + bad, x.apply(0, 0, bad), -2);
            due("10: both " + bad, x.apply(0, bad, bad), -2);
        }
        due("10: same", x.apply(0, 1, 1), -3);
        due("10: right may be earlier than left", x.apply(0, 1, 0), 4);
        due("10: left is taken", x.apply(0, 1, 2), -3);
        due("10: right is taken", x.apply(0, 2, 0), -3);
        due("10: taken as the other side", x.apply(0, 0, 2), -3);
        due("10: both are taken", x.apply(0, 0, 1), -3);
        due("10: not a node comes first", x.apply(0, 0, 5), -2);
        due("10: an application as right", x.apply(1, 2, 4), 5);
        due("10: a taken application", x.apply(1, 4, 3), -3);
        x.overload(0, 0, 1);
        x.overload(1, 0, 2);
        due("10: its own operator", x.leastCost(4, ANY), 1);
        due("10: both operators", x.leastCost(5, ANY), 3);
    }

    private static void applyLimits() {
        OverloadSolver x = new OverloadSolver();
        for (int n = 0; n < 8; n++) {
            x.constant(0);
        }
        due("10: first", x.apply(0, 0, 1), 8);
        due("10: second", x.apply(0, 2, 3), 9);
        due("10: third", x.apply(0, 4, 5), 10);
        due("10: fourth", x.apply(0, 6, 7), -4);
        due("10: taken before fourth", x.apply(0, 6, 5), -3);
        due("10: no node before fourth", x.apply(0, 6, 11), -2);
        due("10: op before fourth", x.apply(3, 6, 7), -1);
        due("10: other nodes may come", x.constant(0), 11);

        OverloadSolver y = new OverloadSolver();
        for (int n = 0; n < 12; n++) {
            y.constant(0);
        }
        due("10: 12 nodes", y.apply(0, 0, 1), -4);
        due("10: same before 12 nodes", y.apply(0, 1, 1), -3);

        OverloadSolver z = new OverloadSolver();
        for (int n = 0; n < 11; n++) {
            z.constant(0);
        }
        due("10: the twelfth node", z.apply(0, 9, 10), 11);
        due("10: the thirteenth", z.apply(0, 0, 11), -4);
    }

    private static void clear() {
        OverloadSolver x = new OverloadSolver();
        x.convert(0, 1, 3);
        x.overload(0, 0, 4);
        x.declare(1, 2);
        x.literalCost(0, 5);
        for (int n = 0; n < 6; n++) {
            x.constant(0);
        }
        x.apply(0, 0, 1);
        x.apply(0, 2, 3);
        x.apply(0, 4, 5);
        due("11: nine", x.clear(), 9);
        due("11: none", x.clear(), 0);
        due("11: nodes", x.nodes(), 0);
        due("11: no such node", x.solutions(0, ANY), -1);
        due("11: no such node", x.apply(0, 0, 1), -2);
        due("11: numbers start anew", x.literal(1), 0);
        due("11: no application any more", x.constant(0), 1);
        due("11: no longer taken", x.apply(0, 0, 1), 2);
        due("11: use", x.use(1), 3);
        due("11: all else stays", x.leastCost(2, 1), 5 + 4 + 3);
        due("11: the set stays", x.typeOf(3, ANY), 1);
        due("11: second", x.apply(0, 2, 3), 4);
        x.constant(0);
        due("11: three applications again", x.apply(0, 4, 5), 6);
        due("11: seven", x.clear(), 7);
        due("11: the set before", x.declare(1, 7), 2);
        due("11: the list", x.forget(0), 1);
    }

    private static void nodes() {
        OverloadSolver x = new OverloadSolver();
        x.literal(1);
        due("12: literal", x.nodes(), 1);
        x.use(0);
        due("12: use", x.nodes(), 2);
        x.constant(0);
        due("12: constant", x.nodes(), 3);
        x.apply(0, 0, 1);
        due("12: application", x.nodes(), 4);
        x.literal(0);
        x.use(2);
        x.constant(3);
        x.apply(0, 0, 1);
        due("12: refused", x.nodes(), 4);
        fill(x);
        due("12: full", x.nodes(), 12);
        x.literal(1);
        due("12: still full", x.nodes(), 12);
    }

    private static void solutions() {
        OverloadSolver x = new OverloadSolver();
        checkRefusals(x, 0);
        due("13: number of the top", freeChain(x), 6);
        checkRefusals(x, 7);
        due("13: all of them", x.solutions(6, ANY), 81 * 64);
        due("13: all of them, wanted", x.solutions(6, 0), 81 * 64);
        due("13: a part alone", x.solutions(2, ANY), 9 * 4);
        due("13: a leaf alone", x.solutions(5, ANY), 3);
        x.convert(2, 0, -1);
        due("13: type 2 ruled out", x.solutions(6, ANY), 16 * 64);
        due("13: type 2 of a leaf", x.solutions(5, ANY), 3);
        due("13: type 2 of a leaf, wanted 0", x.solutions(5, 0), 2);
        x.forget(0);
        due("13: an empty list", x.solutions(6, ANY), 0);
        due("13: an empty list does not touch leaves", x.solutions(5, ANY), 3);
    }

    // A chain of three applications over four literals where every choice is allowed and free.
    private static int freeChain(OverloadSolver x) {
        for (int from = 0; from < 3; from++) {
            for (int to = 0; to < 3; to++) {
                x.convert(from, to, 0);
            }
        }
        for (int k = 0; k < 4; k++) {
            x.overload(0, 0, 0);
        }
        int first = x.apply(0, x.literal(7), x.literal(7));
        int second = x.apply(0, first, x.literal(7));
        return x.apply(0, second, x.literal(7));
    }

    private static void sharedVariable() {
        OverloadSolver x = new OverloadSolver();
        x.overload(0, 0, 0);
        x.overload(0, 13, 0);
        x.overload(0, 9, 0);
        int twice = x.apply(0, x.use(0), x.use(0));
        int apart = x.apply(0, x.use(0), x.use(1));
        due("13: one type for both uses", x.solutions(twice, ANY), 2);
        due("13: two variables", x.solutions(apart, ANY), 3);
        x.declare(0, 2);
        due("13: one type left", x.solutions(twice, ANY), 1);
        due("13: variable 0 is 1", x.solutions(apart, ANY), 2);
        x.declare(1, 4);
        due("13: a variable that no part names", x.solutions(twice, ANY), 1);
        due("13: variable 1 fits nowhere", x.solutions(apart, ANY), 0);
        x.declare(0, 7);
        due("13: a use alone", x.solutions(0, ANY), 3);
    }

    private static void leastCost() {
        OverloadSolver x = new OverloadSolver();
        x.overload(0, 0, 9);
        x.overload(0, 14, 2);
        x.literalCost(0, 3);
        x.literalCost(1, 1);
        x.literal(3);
        x.constant(0);
        int node = x.apply(0, 0, 1);
        due("14: only the first fits", x.leastCost(node, ANY), 9 + 3);
        x.convert(0, 1, 4);
        due("14: the second is cheaper", x.leastCost(node, ANY), 2 + 1 + 4);
        due("14: result 2", x.leastCost(node, 2), 7);
        due("14: result 0", x.leastCost(node, 0), 12);
        due("14: result 0 turned to 1", x.leastCost(node, 1), 16);
        x.convert(2, 1, 8);
        due("14: result 2 turned to 1", x.leastCost(node, 1), 15);
        x.forget(0);
        due("14: no solution", x.leastCost(node, ANY), -3);
        due("14: node before wanted", x.leastCost(node + 1, 4), -1);
        due("14: wanted before no solution", x.leastCost(node, 4), -2);
    }

    private static void dearestSolution() {
        OverloadSolver x = new OverloadSolver();
        x.convert(0, 1, 9);
        x.overload(0, 12, 9);
        x.literalCost(0, 9);
        int first = x.apply(0, x.literal(1), x.literal(1));
        int second = x.apply(0, x.literal(1), x.literal(1));
        int top = x.apply(0, first, second);
        int dearest = 3 * 9 + 4 * 9 + 7 * 9;
        due("14: the dearest", x.leastCost(top, 1), dearest);
        due("15: the dearest", x.bestCount(top, 1), 1);
        due("16: the dearest", x.withCost(top, 1, dearest), 1);
        due("16: one more", x.withCost(top, 1, dearest + 1), 0);
        due("16: without the last conversion", x.withCost(top, ANY, dearest - 9), 1);
    }

    private static void bestCount() {
        OverloadSolver x = new OverloadSolver();
        x.literal(7);
        due("15: three", x.bestCount(0, ANY), 3);
        x.literalCost(1, 1);
        due("15: two", x.bestCount(0, ANY), 2);
        x.literalCost(2, 1);
        due("15: one", x.bestCount(0, ANY), 1);
        x.literalCost(0, 2);
        due("15: two others", x.bestCount(0, ANY), 2);
        due("15: wanted", x.bestCount(0, 0), 1);
        x.convert(1, 0, 1);
        due("15: a tie by conversion", x.bestCount(0, 0), 2);
        x.constant(1);
        due("15: none", x.bestCount(1, 2), 0);
        x.overload(0, 1, 3);
        x.overload(0, 1, 3);
        x.overload(0, 1, 4);
        int node = x.apply(0, 0, 1);
        due("15: equal signatures are two solutions", x.bestCount(node, ANY), 4);
        due("15: solutions", x.solutions(node, ANY), 6);
    }

    private static void withCost() {
        OverloadSolver x = new OverloadSolver();
        x.literal(7);
        x.literalCost(0, 4);
        x.literalCost(1, 4);
        x.literalCost(2, 9);
        due("16: 4", x.withCost(0, ANY, 4), 2);
        due("16: 9", x.withCost(0, ANY, 9), 1);
        due("16: 0", x.withCost(0, ANY, 0), 0);
        due("16: 5", x.withCost(0, ANY, 5), 0);
        due("16: wanted", x.withCost(0, 1, 4), 1);
        int[] far = {LOW, -4, -3, -2, -1, 126, 127, 128, 1000, HIGH};
        for (int cost : far) {
            due("16: " + cost, x.withCost(0, ANY, cost), 0);
            due("16: node before cost " + cost, x.withCost(1, 4, cost), -1);
            due("16: wanted before cost " + cost, x.withCost(0, 4, cost), -2);
        }
        x.constant(0);
        due("16: nothing not allowed is counted", x.withCost(1, 1, -1), 0);
    }

    private static void chosen() {
        OverloadSolver x = new OverloadSolver();
        x.overload(0, 0, 9);
        x.overload(0, 0, 8);
        x.overload(0, 15, 7);
        x.overload(1, 26, 0);
        x.overload(1, 2, 0);
        x.literal(6);
        x.use(1);
        x.constant(2);
        x.constant(0);
        int low = x.apply(0, 0, 1);
        due("17: number", low, 4);
        int top = x.apply(1, 4, 3);
        due("17: only best", x.bestCount(top, ANY), 1);
        due("17: literal", x.chosen(top, ANY, 0), 1);
        due("17: use", x.chosen(top, ANY, 1), 2);
        due("17: constant", x.chosen(top, ANY, 3), 0);
        due("17: lower application", x.chosen(top, ANY, 4), 2);
        due("17: upper application", x.chosen(top, ANY, 5), 1);
        due("17: not a part", x.chosen(top, ANY, 2), -3);
        due("17: above the node", x.chosen(low, ANY, top), -3);
        due("17: beside the node", x.chosen(low, ANY, 3), -3);
        due("17: a part of the lower one", x.chosen(low, ANY, 1), 2);
        due("17: a constant by itself", x.chosen(2, 2, 2), 2);
        int[] bad = {LOW, -1, 6, 11, 12, 13, 14, HIGH};
        for (int part : bad) {
            due("17: part " + part, x.chosen(top, ANY, part), -3);
            due("17: wanted before part " + part, x.chosen(top, 4, part), -2);
            due("17: node before part " + part, x.chosen(6, 4, part), -1);
        }
        due("17: no solution", x.chosen(top, 1, 0), -4);
        due("17: part before no solution", x.chosen(top, 1, 2), -3);
        x.overload(0, 15, 7);
        due("17: two best", x.chosen(top, ANY, 3), -4);
        due("17: part before two best", x.chosen(top, ANY, 2), -3);
        x.clear();
        x.constant(0);
        due("17: a part that is gone", x.chosen(0, ANY, 1), -3);
    }

    private static void typeOf() {
        OverloadSolver x = new OverloadSolver();
        x.overload(2, 1, 3);
        x.overload(2, 2, 2);
        int node = x.apply(2, x.literal(1), x.constant(0));
        due("18: result of the best", x.typeOf(node, ANY), 2);
        due("18: wanted", x.typeOf(node, 1), 1);
        due("18: no solution", x.typeOf(node, 0), -4);
        x.convert(2, 0, 0);
        due("18: its own type, not the wanted one", x.typeOf(node, 0), 2);
        due("18: literal", x.typeOf(0, ANY), 0);
        int use = x.use(0);
        due("18: three best", x.typeOf(use, ANY), -4);
        due("18: one best", x.typeOf(use, 1), 1);
        due("18: two best", x.typeOf(use, 0), -4);
    }

    private static void checkRefusals(OverloadSolver x, int count) {
        int[] node = {LOW, -1, count, 12, HIGH};
        for (int bad : node) {
            due("13: node " + bad, x.solutions(bad, 4), -1);
            due("14: node " + bad, x.leastCost(bad, 4), -1);
            due("15: node " + bad, x.bestCount(bad, 4), -1);
            due("16: node " + bad, x.withCost(bad, 4, 0), -1);
            due("17: node " + bad, x.chosen(bad, 4, 0), -1);
            due("18: node " + bad, x.typeOf(bad, 4), -1);
        }
        int[] wanted = {LOW, -1, 4, HIGH};
        for (int bad : wanted) {
            int want = count == 0 ? -1 : -2;
            due("13: wanted " + bad, x.solutions(0, bad), want);
            due("14: wanted " + bad, x.leastCost(0, bad), want);
            due("15: wanted " + bad, x.bestCount(0, bad), want);
            due("16: wanted " + bad, x.withCost(0, bad, 0), want);
            due("17: wanted " + bad, x.chosen(0, bad, 0), want);
            due("18: wanted " + bad, x.typeOf(0, bad), want);
        }
    }

    private static void questionsChangeNothing() {
        OverloadSolver x = new OverloadSolver();
        x.overload(0, 1, 2);
        int node = x.apply(0, x.literal(7), x.use(0));
        for (int round = 0; round < 3; round++) {
            due("terms: whole", x.leastCost(node, ANY), 2);
            due("terms: leaf", x.solutions(0, ANY), 3);
            due("terms: chosen", x.chosen(node, 1, 1), 0);
            due("terms: other leaf", x.withCost(1, ANY, 0), 3);
            due("terms: type", x.typeOf(node, 1), 1);
            due("terms: best", x.bestCount(node, 2), 0);
            due("terms: nodes", x.nodes(), 3);
        }
    }

    private static void refusalsChangeNothing() {
        OverloadSolver x = new OverloadSolver();
        x.convert(0, 1, 5);
        x.convert(0, 1, 10);
        x.convert(0, 0, 5);
        x.overload(0, 4, 3);
        x.overload(0, 4, 10);
        x.overload(0, 27, 0);
        x.declare(0, 1);
        x.declare(0, 8);
        x.literalCost(0, 2);
        x.literalCost(0, 10);
        int node = x.apply(0, x.literal(1), x.use(0));
        x.apply(0, node, node);
        x.apply(0, 0, node);
        x.apply(0, node, 9);
        due("terms: cost", x.leastCost(node, ANY), 2 + 3 + 5);
        due("terms: solutions", x.solutions(node, ANY), 1);
        due("terms: nodes", x.nodes(), 3);
        due("terms: the refused did not take the node", x.apply(0, node, x.constant(0)), 4);
        due("terms: set", x.declare(0, 7), 1);
        due("terms: list", x.forget(0), 1);
    }

    private static void laterChangesCount() {
        OverloadSolver x = new OverloadSolver();
        int node = x.apply(1, x.literal(2), x.use(1));
        due("terms: an empty list", x.solutions(node, ANY), 0);
        x.overload(1, 14, 4);
        due("terms: a signature made later", x.leastCost(node, ANY), 4);
        x.literalCost(1, 3);
        due("terms: a literal cost set later", x.leastCost(node, ANY), 7);
        x.declare(1, 1);
        due("terms: a set declared later", x.leastCost(node, ANY), -3);
        x.convert(0, 1, 1);
        due("terms: a conversion set later", x.leastCost(node, ANY), 8);
    }

    private static void objectsAreApart() {
        OverloadSolver x = new OverloadSolver();
        OverloadSolver y = new OverloadSolver();
        x.convert(0, 1, 5);
        x.literalCost(0, 9);
        x.declare(0, 1);
        x.overload(0, 0, 0);
        x.literal(1);
        due("terms: nodes", y.nodes(), 0);
        due("terms: number", y.literal(1), 0);
        due("terms: literal cost", y.leastCost(0, 0), 0);
        due("terms: conversion", y.leastCost(0, 1), -3);
        due("terms: set", y.declare(0, 7), 7);
        due("terms: list", y.forget(0), 0);
    }

    private static void fill(OverloadSolver x) {
        for (int n = x.nodes(); n < 12; n++) {
            due("filling up", x.constant(0), n);
        }
    }
}
