/**
 * Choosing overloads, literal types and variable types in an expression so that the sum of all
 * costs is least.
 *
 * A question walks through every way to choose. Three applications have at most four leaves, so
 * there are at most 3^4 * 4^3 = 5184 ways, too few to be worth a cleverer search.
 */
public final class OverloadSolver {
    public static final int ANY = 3;

    private static final int TYPES = 3;
    private static final int TYPE_PAIRS = 9;
    private static final int SIGNATURE_SHAPES = 27;
    private static final int ALL_TYPES = 7;
    private static final int MOST_COST = 9;
    private static final int NOT_ALLOWED = -1;

    private static final int OPERATORS = 3;
    private static final int LIST_LENGTH = 4;
    private static final int ALL_SIGNATURES = 12;

    private static final int VARIABLES = 2;

    private static final int MOST_NODES = 12;
    private static final int MOST_APPLICATIONS = 3;
    private static final int LITERAL = 0;
    private static final int USE = 1;
    private static final int CONSTANT = 2;
    private static final int APPLICATION = 3;

    // A slot is something to choose for: slot n for node n, then one slot for each variable, so
    // that all uses of a variable share one choice.
    private static final int SLOTS = 14;

    // The dearest solution has 3 signatures, 4 literals and 7 conversions at 9 each: 126.
    private static final int DIFFERENT_COSTS = 127;

    private final int[] conversionCost = new int[TYPE_PAIRS];
    private final int[] signatureTypes = new int[ALL_SIGNATURES];
    private final int[] signatureCost = new int[ALL_SIGNATURES];
    private final int[] signatureCount = new int[OPERATORS];
    private final int[] variableSet = new int[VARIABLES];
    private final int[] costOfLiteral = new int[TYPES];

    private final int[] kind = new int[MOST_NODES];
    // The set of a literal, the variable of a use, the type of a constant, the operator of an
    // application.
    private final int[] content = new int[MOST_NODES];
    private final int[] leftNode = new int[MOST_NODES];
    private final int[] rightNode = new int[MOST_NODES];
    private final boolean[] isTaken = new boolean[MOST_NODES];
    private int nodeCount = 0;
    private int applicationCount = 0;

    // What follows is made anew by each question and carries nothing from one call to the next.
    private final boolean[] isPart = new boolean[MOST_NODES];
    private final int[] options = new int[SLOTS];
    private final int[] choice = new int[SLOTS];
    private final int[] partType = new int[MOST_NODES];
    private final int[] solutionsAtCost = new int[DIFFERENT_COSTS];
    private final int[] bestChoice = new int[MOST_NODES];
    private final int[] bestType = new int[MOST_NODES];
    private int solutionCount = 0;
    private int lowestCost = NOT_ALLOWED;

    public OverloadSolver() {
        for (int from = 0; from < TYPES; from++) {
            for (int to = 0; to < TYPES; to++) {
                conversionCost[TYPES * from + to] = from == to ? 0 : NOT_ALLOWED;
            }
        }
        for (int v = 0; v < VARIABLES; v++) {
            variableSet[v] = ALL_TYPES;
        }
    }

    public int convert(int from, int to, int cost) {
        if (!isType(from) || !isType(to)) {
            return -1;
        }
        if (from == to) {
            return -2;
        }
        if (cost != NOT_ALLOWED && !isCost(cost)) {
            return -3;
        }
        conversionCost[TYPES * from + to] = cost;
        return 0;
    }

    public int overload(int op, int types, int cost) {
        if (!isOperator(op)) {
            return -1;
        }
        if (types < 0 || types >= SIGNATURE_SHAPES) {
            return -2;
        }
        if (!isCost(cost)) {
            return -3;
        }
        if (signatureCount[op] >= LIST_LENGTH) {
            return -4;
        }
        int place = LIST_LENGTH * op + signatureCount[op];
        signatureTypes[place] = types;
        signatureCost[place] = cost;
        signatureCount[op]++;
        return signatureCount[op];
    }

    public int forget(int op) {
        if (!isOperator(op)) {
            return -1;
        }
        int held = signatureCount[op];
        signatureCount[op] = 0;
        return held;
    }

    public int declare(int v, int set) {
        if (!isVariable(v)) {
            return -1;
        }
        if (!isSet(set)) {
            return -2;
        }
        int before = variableSet[v];
        variableSet[v] = set;
        return before;
    }

    public int literalCost(int type, int cost) {
        if (!isType(type)) {
            return -1;
        }
        if (!isCost(cost)) {
            return -2;
        }
        costOfLiteral[type] = cost;
        return 0;
    }

    public int literal(int set) {
        if (!isSet(set)) {
            return -1;
        }
        if (nodeCount >= MOST_NODES) {
            return -2;
        }
        return addNode(LITERAL, set);
    }

    public int use(int v) {
        if (!isVariable(v)) {
            return -1;
        }
        if (nodeCount >= MOST_NODES) {
            return -2;
        }
        return addNode(USE, v);
    }

    public int constant(int type) {
        if (!isType(type)) {
            return -1;
        }
        if (nodeCount >= MOST_NODES) {
            return -2;
        }
        return addNode(CONSTANT, type);
    }

    public int apply(int op, int left, int right) {
        if (!isOperator(op)) {
            return -1;
        }
        if (!isNode(left) || !isNode(right)) {
            return -2;
        }
        if (left == right || isTaken[left] || isTaken[right]) {
            return -3;
        }
        if (nodeCount >= MOST_NODES || applicationCount >= MOST_APPLICATIONS) {
            return -4;
        }
        int node = addNode(APPLICATION, op);
        leftNode[node] = left;
        rightNode[node] = right;
        isTaken[left] = true;
        isTaken[right] = true;
        applicationCount++;
        return node;
    }

    public int clear() {
        int before = nodeCount;
        nodeCount = 0;
        applicationCount = 0;
        return before;
    }

    public int nodes() {
        return nodeCount;
    }

    public int solutions(int node, int wanted) {
        int refusal = refusalOfQuestion(node, wanted);
        if (refusal != 0) {
            return refusal;
        }
        survey(node, wanted);
        return solutionCount;
    }

    public int leastCost(int node, int wanted) {
        int refusal = refusalOfQuestion(node, wanted);
        if (refusal != 0) {
            return refusal;
        }
        survey(node, wanted);
        return solutionCount == 0 ? -3 : lowestCost;
    }

    public int bestCount(int node, int wanted) {
        int refusal = refusalOfQuestion(node, wanted);
        if (refusal != 0) {
            return refusal;
        }
        survey(node, wanted);
        return countOfBest();
    }

    public int withCost(int node, int wanted, int cost) {
        int refusal = refusalOfQuestion(node, wanted);
        if (refusal != 0) {
            return refusal;
        }
        if (cost < 0 || cost >= DIFFERENT_COSTS) {
            return 0;
        }
        survey(node, wanted);
        return solutionsAtCost[cost];
    }

    public int chosen(int node, int wanted, int part) {
        int refusal = refusalOfQuestion(node, wanted);
        if (refusal != 0) {
            return refusal;
        }
        survey(node, wanted);
        if (!isNode(part) || !isPart[part]) {
            return -3;
        }
        if (countOfBest() != 1) {
            return -4;
        }
        return kind[part] == APPLICATION ? bestChoice[part] : bestType[part];
    }

    public int typeOf(int node, int wanted) {
        int refusal = refusalOfQuestion(node, wanted);
        if (refusal != 0) {
            return refusal;
        }
        survey(node, wanted);
        return countOfBest() == 1 ? bestType[node] : -4;
    }

    private static boolean isType(int type) {
        return type >= 0 && type < TYPES;
    }

    private static boolean isCost(int cost) {
        return cost >= 0 && cost <= MOST_COST;
    }

    private static boolean isOperator(int op) {
        return op >= 0 && op < OPERATORS;
    }

    private static boolean isVariable(int v) {
        return v >= 0 && v < VARIABLES;
    }

    private static boolean isSet(int set) {
        return set >= 1 && set <= ALL_TYPES;
    }

    private static boolean holds(int set, int type) {
        return (set >> type & 1) == 1;
    }

    private boolean isNode(int node) {
        return node >= 0 && node < nodeCount;
    }

    private int addNode(int newKind, int newContent) {
        int node = nodeCount;
        kind[node] = newKind;
        content[node] = newContent;
        // Another node may have had this number before a clear.
        isTaken[node] = false;
        nodeCount++;
        return node;
    }

    private int refusalOfQuestion(int node, int wanted) {
        if (!isNode(node)) {
            return -1;
        }
        if (!isType(wanted) && wanted != ANY) {
            return -2;
        }
        return 0;
    }

    private void survey(int node, int wanted) {
        markParts(node);
        setOptions();
        forgetSolutions();
        int ways = waysToChoose();
        for (int way = 0; way < ways; way++) {
            int cost = costOfChoices(node, wanted);
            if (cost != NOT_ALLOWED) {
                noteSolution(cost);
            }
            nextChoices();
        }
    }

    private void markParts(int node) {
        for (int n = 0; n < MOST_NODES; n++) {
            isPart[n] = n == node;
        }
        // The nodes of an application are earlier than it, so going down meets it before them.
        for (int n = node; n >= 0; n--) {
            if (isPart[n] && kind[n] == APPLICATION) {
                isPart[leftNode[n]] = true;
                isPart[rightNode[n]] = true;
            }
        }
    }

    private void setOptions() {
        for (int slot = 0; slot < SLOTS; slot++) {
            options[slot] = 1;
            choice[slot] = 0;
        }
        for (int n = 0; n < MOST_NODES; n++) {
            if (isPart[n]) {
                setOptionsOfPart(n);
            }
        }
    }

    // Types outside a set are counted here and turned down by costOfPart.
    private void setOptionsOfPart(int part) {
        switch (kind[part]) {
            case LITERAL:
                options[part] = TYPES;
                break;
            case USE:
                options[MOST_NODES + content[part]] = TYPES;
                break;
            case APPLICATION:
                options[part] = signatureCount[content[part]];
                break;
            default:
                break;
        }
    }

    private void forgetSolutions() {
        for (int cost = 0; cost < DIFFERENT_COSTS; cost++) {
            solutionsAtCost[cost] = 0;
        }
        solutionCount = 0;
        lowestCost = NOT_ALLOWED;
    }

    private int waysToChoose() {
        int ways = 1;
        for (int slot = 0; slot < SLOTS; slot++) {
            ways *= options[slot];
        }
        return ways;
    }

    // Counts up by one, the slots being the digits, so that every way comes once.
    private void nextChoices() {
        for (int slot = 0; slot < SLOTS; slot++) {
            choice[slot]++;
            if (choice[slot] < options[slot]) {
                return;
            }
            choice[slot] = 0;
        }
    }

    private int costOfChoices(int node, int wanted) {
        int sum = 0;
        for (int n = 0; n <= node; n++) {
            if (isPart[n]) {
                int cost = costOfPart(n);
                if (cost == NOT_ALLOWED) {
                    return NOT_ALLOWED;
                }
                sum += cost;
            }
        }
        if (wanted == ANY) {
            return sum;
        }
        int last = conversionCost[TYPES * partType[node] + wanted];
        return last == NOT_ALLOWED ? NOT_ALLOWED : sum + last;
    }

    // Also notes the part's type, which the application above it needs.
    private int costOfPart(int part) {
        switch (kind[part]) {
            case LITERAL:
                partType[part] = choice[part];
                return holds(content[part], choice[part]) ? costOfLiteral[choice[part]] : NOT_ALLOWED;
            case USE:
                int type = choice[MOST_NODES + content[part]];
                partType[part] = type;
                return holds(variableSet[content[part]], type) ? 0 : NOT_ALLOWED;
            case CONSTANT:
                partType[part] = content[part];
                return 0;
            default:
                return costOfApplication(part);
        }
    }

    private int costOfApplication(int part) {
        int place = LIST_LENGTH * content[part] + choice[part];
        int types = signatureTypes[place];
        int leftType = types / TYPE_PAIRS;
        int rightType = types / TYPES % TYPES;
        partType[part] = types % TYPES;
        int left = conversionCost[TYPES * partType[leftNode[part]] + leftType];
        int right = conversionCost[TYPES * partType[rightNode[part]] + rightType];
        if (left == NOT_ALLOWED || right == NOT_ALLOWED) {
            return NOT_ALLOWED;
        }
        return signatureCost[place] + left + right;
    }

    private void noteSolution(int cost) {
        if (solutionCount == 0 || cost < lowestCost) {
            lowestCost = cost;
            for (int n = 0; n < MOST_NODES; n++) {
                bestChoice[n] = choice[n];
                bestType[n] = partType[n];
            }
        }
        solutionCount++;
        solutionsAtCost[cost]++;
    }

    private int countOfBest() {
        return solutionCount == 0 ? 0 : solutionsAtCost[lowestCost];
    }
}
