import java.util.ArrayList;
import java.util.List;
import java.util.TreeMap;

// Compares long made-up runs of calls with a second solver, written from the document in another
// way: it goes down the tree by recursion, for one assignment of the variables at a time.
public final class ModelTest {
    private static final int RUNS = 3000;
    // A step makes at most two calls, and nothing is promised after the 512th.
    private static final int MOST_STEPS = 256;
    private static final int BUILDING_STEPS = 34;

    private static final class Node {
        char kind;
        int content;
        int left = -1;
        int right = -1;
        boolean taken = false;
    }

    // A way to choose for all parts of one node: its type, its cost, and what is chosen where.
    private static final class Way {
        final int type;
        final int cost;
        final TreeMap<Integer, Integer> chosen = new TreeMap<>();

        Way(int type, int cost) {
            this.type = type;
            this.cost = cost;
        }
    }

    private static final class Model {
        final int[][] convert = {{0, -1, -1}, {-1, 0, -1}, {-1, -1, 0}};
        final List<List<int[]>> lists = List.of(new ArrayList<>(), new ArrayList<>(), new ArrayList<>());
        final int[] sets = {7, 7};
        final int[] literalCost = {0, 0, 0};
        final List<Node> nodes = new ArrayList<>();

        static boolean in(int value, int low, int high) {
            return low <= value && value <= high;
        }

        int add(char kind, int content) {
            Node node = new Node();
            node.kind = kind;
            node.content = content;
            nodes.add(node);
            return nodes.size() - 1;
        }

        int leaf(char kind, int content, int low, int high) {
            if (!in(content, low, high)) return -1;
            return nodes.size() == 12 ? -2 : add(kind, content);
        }

        int apply(int op, int left, int right) {
            int last = nodes.size() - 1;
            if (!in(op, 0, 2)) return -1;
            if (!in(left, 0, last) || !in(right, 0, last)) return -2;
            if (left == right || nodes.get(left).taken || nodes.get(right).taken) return -3;
            if (last == 11 || nodes.stream().filter(n -> n.kind == 'a').count() == 3) return -4;
            nodes.get(left).taken = true;
            nodes.get(right).taken = true;
            int node = add('a', op);
            nodes.get(node).left = left;
            nodes.get(node).right = right;
            return node;
        }

        int setConvert(int from, int to, int cost) {
            if (!in(from, 0, 2) || !in(to, 0, 2)) return -1;
            if (from == to) return -2;
            if (!in(cost, -1, 9)) return -3;
            convert[from][to] = cost;
            return 0;
        }

        int overload(int op, int types, int cost) {
            if (!in(op, 0, 2)) return -1;
            if (!in(types, 0, 26)) return -2;
            if (!in(cost, 0, 9)) return -3;
            if (lists.get(op).size() == 4) return -4;
            lists.get(op).add(new int[] {types / 9, types % 9 / 3, types % 3, cost});
            return lists.get(op).size();
        }

        int forget(int op) {
            if (!in(op, 0, 2)) return -1;
            int held = lists.get(op).size();
            lists.get(op).clear();
            return held;
        }

        int declare(int v, int set) {
            if (!in(v, 0, 1)) return -1;
            if (!in(set, 1, 7)) return -2;
            int before = sets[v];
            sets[v] = set;
            return before;
        }

        int setLiteralCost(int type, int cost) {
            if (!in(type, 0, 2)) return -1;
            if (!in(cost, 0, 9)) return -2;
            literalCost[type] = cost;
            return 0;
        }

        int clear() {
            int before = nodes.size();
            nodes.clear();
            return before;
        }

        boolean names(int at, int v) {
            Node node = nodes.get(at);
            if (node.kind == 'a') return names(node.left, v) || names(node.right, v);
            return node.kind == 'u' && node.content == v;
        }

        boolean isPart(int of, int part) {
            if (of == part) return true;
            Node node = nodes.get(of);
            return node.kind == 'a' && (isPart(node.left, part) || isPart(node.right, part));
        }

        // Type 0 stands for "not named": it adds no choice.
        List<Integer> typesOfVariable(int at, int v) {
            if (!names(at, v)) return List.of(0);
            List<Integer> types = new ArrayList<>();
            for (int t = 0; t < 3; t++) if ((sets[v] & 1 << t) != 0) types.add(t);
            return types;
        }

        List<Way> solve(int at, int wanted) {
            List<Way> all = new ArrayList<>();
            for (int first : typesOfVariable(at, 0)) {
                for (int second : typesOfVariable(at, 1)) {
                    for (Way way : ways(at, new int[] {first, second})) {
                        int last = wanted == 3 ? 0 : convert[way.type][wanted];
                        if (last < 0) continue;
                        Way whole = new Way(way.type, way.cost + last);
                        whole.chosen.putAll(way.chosen);
                        all.add(whole);
                    }
                }
            }
            return all;
        }

        List<Way> ways(int at, int[] variable) {
            Node node = nodes.get(at);
            List<Way> found = new ArrayList<>();
            if (node.kind == 'a') {
                join(at, ways(node.left, variable), ways(node.right, variable), found);
                return found;
            }
            for (int t = 0; t < 3; t++) {
                boolean fits = node.kind == 'l' ? (node.content & 1 << t) != 0
                    : node.kind == 'u' ? variable[node.content] == t : node.content == t;
                if (!fits) continue;
                Way way = new Way(t, node.kind == 'l' ? literalCost[t] : 0);
                way.chosen.put(at, t);
                found.add(way);
            }
            return found;
        }

        void join(int at, List<Way> lefts, List<Way> rights, List<Way> found) {
            List<int[]> list = lists.get(nodes.get(at).content);
            for (int place = 0; place < list.size(); place++) {
                int[] signature = list.get(place);
                for (Way left : lefts) {
                    int leftCost = convert[left.type][signature[0]];
                    if (leftCost < 0) continue;
                    for (Way right : rights) {
                        int rightCost = convert[right.type][signature[1]];
                        if (rightCost < 0) continue;
                        Way way = new Way(signature[2],
                            signature[3] + left.cost + right.cost + leftCost + rightCost);
                        way.chosen.putAll(left.chosen);
                        way.chosen.putAll(right.chosen);
                        way.chosen.put(at, place);
                        found.add(way);
                    }
                }
            }
        }

        // question: s(olutions), l(eastCost), b(estCount), w(ithCost), c(hosen), t(ypeOf)
        int ask(char question, int node, int wanted, int extra) {
            if (!in(node, 0, nodes.size() - 1)) return -1;
            if (!in(wanted, 0, 3)) return -2;
            if (question == 'c' && !(in(extra, 0, nodes.size() - 1) && isPart(node, extra))) return -3;
            List<Way> all = solve(node, wanted);
            int least = all.stream().mapToInt(w -> w.cost).min().orElse(-3);
            List<Way> best = all.stream().filter(w -> w.cost == least).toList();
            switch (question) {
                case 's': return all.size();
                case 'l': return least;
                case 'b': return best.size();
                case 'w': return (int) all.stream().filter(w -> w.cost == extra).count();
                case 'c': return best.size() == 1 ? best.get(0).chosen.get(extra) : -4;
                default: return best.size() == 1 ? best.get(0).type : -4;
            }
        }
    }

    private static long state;

    // A fixed row of numbers, so that every run of the test is the same.
    private static int pick(int low, int high) {
        state = state * 6364136223846793005L + 1442695040888963407L;
        return low + (int) ((state >>> 33) % (high - low + 1));
    }

    // Mostly a value that is in order, now and then one just outside.
    private static int near(int low, int high) {
        return pick(0, 24) == 0 ? (pick(0, 1) == 0 ? low - 1 : high + 1) : pick(low, high);
    }

    private static int someNode(Model m) {
        return near(0, m.nodes.isEmpty() ? 0 : m.nodes.size() - 1);
    }

    // Mostly a node that may still become part of an application.
    private static int someFreeNode(Model m) {
        List<Integer> free = new ArrayList<>();
        for (int n = 0; n < m.nodes.size(); n++) if (!m.nodes.get(n).taken) free.add(n);
        return free.isEmpty() || pick(0, 9) == 0 ? someNode(m) : free.get(pick(0, free.size() - 1));
    }

    // The first steps build up something worth asking about; later ones change anything.
    private static int kindOfChange(int step) {
        if (step < 10) return 0;
        if (step < 22) return 3;
        if (step < 28) return pick(9, 12);
        if (step < BUILDING_STEPS) return 13;
        return pick(0, 15);
    }

    private static int lastApplication(Model m) {
        for (int n = m.nodes.size() - 1; n >= 0; n--) if (m.nodes.get(n).kind == 'a') return n;
        return someNode(m);
    }

    private static int wrong = 0;
    private static int asked = 0;
    private static int only = 0;
    private static int large = 0;

    private static void same(int run, int step, String what, int got, int want) {
        if (got != want) {
            wrong++;
            if (wrong <= 20) {
                System.out.println("run " + run + ", step " + step + ": " + what + " answered " + got
                    + ", the model says " + want);
            }
        }
    }

    public static void main(String[] args) {
        for (int run = 0; run < RUNS; run++) {
            state = 77L * run + 5;
            OverloadSolver x = new OverloadSolver();
            Model m = new Model();
            int most = run % 3 == 0 ? 9 : run % 3 == 1 ? 3 : 1;
            int steps = run % 10 == 0 ? MOST_STEPS : 90;
            for (int step = 0; step < steps; step++) {
                if (step < BUILDING_STEPS || pick(0, 2) == 0) {
                    change(run, step, x, m, most);
                } else {
                    question(run, step, x, m);
                }
            }
        }
        System.out.println(asked + " questions asked, " + only + " of them about an only best solution, "
            + large + " with 100 solutions or more");
        if (only < 1000 || large < 1000) {
            wrong++;
            System.out.println("too few for the test to mean something");
        }
        System.out.println(wrong == 0 ? "program and model agree" : wrong + " answers differ");
        if (wrong != 0) {
            System.exit(1);
        }
    }

    private static void change(int run, int step, OverloadSolver x, Model m, int most) {
        int a = near(0, 2);
        int b = near(0, 2);
        int cost = pick(0, 24) == 0 ? pick(-3, 12) : pick(0, most);
        int types = near(0, 26);
        int set = near(1, 7);
        int v = near(0, 1);
        int left = someFreeNode(m);
        int right = someFreeNode(m);
        switch (kindOfChange(step)) {
            case 0: case 1: case 2:
                int conversion = pick(0, 5) == 0 ? -1 : cost;
                same(run, step, "convert", x.convert(a, b, conversion), m.setConvert(a, b, conversion));
                break;
            case 3: case 4: case 5:
                same(run, step, "overload", x.overload(a, types, cost), m.overload(a, types, cost));
                break;
            case 6:
                if (pick(0, 3) == 0) same(run, step, "forget", x.forget(a), m.forget(a));
                break;
            case 7:
                same(run, step, "declare", x.declare(v, set), m.declare(v, set));
                break;
            case 8:
                same(run, step, "literalCost", x.literalCost(a, cost), m.setLiteralCost(a, cost));
                break;
            case 9: case 10:
                same(run, step, "literal", x.literal(set), m.leaf('l', set, 1, 7));
                break;
            case 11:
                same(run, step, "use", x.use(v), m.leaf('u', v, 0, 1));
                break;
            case 12:
                same(run, step, "constant", x.constant(a), m.leaf('c', a, 0, 2));
                break;
            case 13: case 14:
                same(run, step, "apply", x.apply(a, left, right), m.apply(a, left, right));
                break;
            default:
                if (pick(0, 9) == 0) same(run, step, "clear", x.clear(), m.clear());
                break;
        }
        same(run, step, "nodes", x.nodes(), m.nodes.size());
    }

    private static void question(int run, int step, OverloadSolver x, Model m) {
        int node = pick(0, 2) > 0 ? lastApplication(m) : someNode(m);
        int wanted = near(0, 3);
        int part = someNode(m);
        int least = m.ask('l', node, wanted, 0);
        int cost = pick(0, 9) == 0 ? pick(-4, 130) : least + pick(0, 5);
        asked++;
        if (m.ask('s', node, wanted, 0) >= 100) large++;
        switch (pick(0, 5)) {
            case 0:
                same(run, step, "solutions", x.solutions(node, wanted), m.ask('s', node, wanted, 0));
                break;
            case 1:
                same(run, step, "leastCost", x.leastCost(node, wanted), least);
                break;
            case 2:
                same(run, step, "bestCount", x.bestCount(node, wanted), m.ask('b', node, wanted, 0));
                break;
            case 3:
                same(run, step, "withCost", x.withCost(node, wanted, cost), m.ask('w', node, wanted, cost));
                break;
            case 4:
                int chosen = m.ask('c', node, wanted, part);
                if (chosen >= 0) only++;
                same(run, step, "chosen", x.chosen(node, wanted, part), chosen);
                break;
            default:
                same(run, step, "typeOf", x.typeOf(node, wanted), m.ask('t', node, wanted, 0));
                break;
        }
    }
}
