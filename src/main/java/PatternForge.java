/**
 * Functions by rows of patterns over values built from constructors. The document says what each public method
 * promises; the comments here say why the work is done as it is.
 */
public final class PatternForge {
    public static final int REFUSED = -1, WRONG = -2, OK = 0, STUCK = 1, LONG = 2, BIG = 3;

    private static final int ANY = 0, VAR = 1, CON = 2, OR = 3, NOT = 4, CALL = 5;

    private static final int MOST_CONSTRUCTORS = 6, MOST_ARITY = 2, VARIABLES = 4, FUNCTIONS = 4, MOST_ROWS = 5;
    private static final int MOST_DRAFTED = 40, MOST_TERM = 12, MOST_SIZE = 40, MOST_STEPS = 100, MOST_SURVEYED = 5;

    // A token is held as kind * TOKEN_BASE + v.
    private static final int TOKEN_BASE = 8;

    private static final int ALL_ROWS = FUNCTIONS * MOST_ROWS;
    private static final int ALL_TOKENS = ALL_ROWS * MOST_TERM;
    private static final int FITS = MOST_TERM * MOST_SIZE;
    // No call makes more nodes or operands than its result has tokens.
    private static final int MOST_OPERANDS = 1 + MOST_STEPS * MOST_TERM;
    private static final int MOST_NODES = MOST_SIZE + MOST_STEPS * MOST_TERM;
    private static final int ALL_VARIABLES = MOST_STEPS * VARIABLES;
    private static final int TALLIES = 1 + MOST_ROWS;
    // All lists of 5 out of 6 constructors: 6^5.
    private static final int MOST_LISTS = 7776;
    // A run has at most 100 calls, each of at most 12 tokens and an end.
    private static final int MOST_TURNS = 1_000_000;

    // Beyond every place in a list: the end of a term that lacks operands.
    private static final int NO_END = 1_000;
    private static final int NO_PATTERN = -1;
    private static final int NO_ROW = -1;
    private static final int NO_FUNCTION = -1;
    private static final int GOING = -1, NEVER_RAN = -2;

    private int constructorCount;
    private final int[] arityOf = new int[MOST_CONSTRUCTORS];

    private int drafted;
    private final int[] draft = new int[MOST_DRAFTED];
    private final int[] draftEnd = new int[MOST_DRAFTED];
    private final int[] unwritten = new int[MOST_DRAFTED];

    // Row r of function f is at f * MOST_ROWS + r. Results are held operands first, so that working one out is a
    // plain walk from its first token to its last.
    private final int[] rowCount = new int[FUNCTIONS];
    private final int[] pattern = new int[ALL_TOKENS];
    private final int[] patternEnd = new int[ALL_TOKENS];
    private final int[] patternLength = new int[ALL_ROWS];
    private final int[] outcome = new int[ALL_TOKENS];
    private final int[] outcomeLength = new int[ALL_ROWS];

    private int argumentSize;
    private final int[] argument = new int[MOST_SIZE];

    // The value that rows are tried on, as a list; its nodes are known within a run only.
    private int subjectSize;
    private final int[] subject = new int[MOST_SIZE];
    private final int[] subjectEnd = new int[MOST_SIZE];
    private final int[] subjectNode = new int[MOST_SIZE];
    private final boolean[] fits = new boolean[FITS];

    // The values of a run share their parts: a node is a constructor with the nodes of its values.
    private int nodeCount;
    private final int[] nodeConstructor = new int[MOST_NODES];
    private final int[] nodeFirst = new int[MOST_NODES];
    private final int[] nodeSecond = new int[MOST_NODES];
    private final int[] nodeSize = new int[MOST_NODES];

    // The calls that have not come back yet, and the values that wait to be operands.
    private int depth;
    private final int[] callRow = new int[MOST_STEPS];
    private final int[] callNext = new int[MOST_STEPS];
    private final int[] callVariable = new int[ALL_VARIABLES];
    private int operandCount;
    private final int[] operand = new int[MOST_OPERANDS];

    private int runStatus = NEVER_RAN;
    private int runSteps;
    private int runFunction;
    private int runSize;
    private final int[] runList = new int[MOST_SIZE];

    // Of one function and one size: how many values each row takes (at row + 1) and no row takes (at 0), and the
    // first value that none takes.
    private final int[] tally = new int[TALLIES];
    private final int[] untaken = new int[MOST_SURVEYED];

    public PatternForge() {
    }

    public int con(int arity) {
        if (constructorCount == MOST_CONSTRUCTORS || arity < 0 || arity > MOST_ARITY) {
            return REFUSED;
        }
        arityOf[constructorCount] = arity;
        constructorCount++;
        return constructorCount - 1;
    }

    public int token(int kind, int v) {
        if (drafted == MOST_DRAFTED || !isToken(kind, v)) {
            return REFUSED;
        }
        // Where v says nothing it may be anything, so it is not kept.
        boolean plain = kind == ANY || kind == OR || kind == NOT;
        draft[drafted] = kind * TOKEN_BASE + (plain ? 0 : v);
        drafted++;
        return drafted;
    }

    public int row(int f) {
        if (!isFunction(f) || rowCount[f] == MOST_ROWS) {
            return REFUSED;
        }
        measureDraft();
        int split = drafted == 0 ? NO_END : draftEnd[0];
        int variables = patternVariables(split);
        boolean right = variables != NO_PATTERN && isOutcome(split, variables);
        if (right) {
            int at = f * MOST_ROWS + rowCount[f];
            storePattern(at, split);
            storeOutcome(at, split);
            rowCount[f]++;
        }
        drafted = 0;
        return right ? rowCount[f] : WRONG;
    }

    public int drop(int f) {
        if (!isFunction(f)) {
            return REFUSED;
        }
        int dropped = rowCount[f];
        rowCount[f] = 0;
        return dropped;
    }

    public int give() {
        boolean right = isDraftValue();
        if (right) {
            argumentSize = drafted;
            for (int at = 0; at < drafted; at++) {
                argument[at] = draft[at] % TOKEN_BASE;
            }
        }
        drafted = 0;
        return right ? argumentSize : WRONG;
    }

    public int run(int f) {
        if (!isFunction(f) || argumentSize == 0) {
            return REFUSED;
        }
        startRun();
        int status = enter(f);
        for (int turn = 0; turn < MOST_TURNS && status == GOING; turn++) {
            status = workOn();
        }
        runStatus = status;
        if (status == OK) {
            keepOutcome();
        }
        return status;
    }

    public int result(int k) {
        if (runStatus != OK || k < 0 || k >= runSize) {
            return REFUSED;
        }
        return runList[k];
    }

    public int ran(int what) {
        if (runStatus == NEVER_RAN) {
            return REFUSED;
        }
        switch (what) {
            case 0:
                return runSize;
            case 1:
                return runSteps;
            case 2:
                return runFunction;
            default:
                return REFUSED;
        }
    }

    public int use() {
        if (runStatus != OK) {
            return REFUSED;
        }
        argumentSize = runSize;
        for (int at = 0; at < runSize; at++) {
            argument[at] = runList[at];
        }
        return argumentSize;
    }

    public int taken(int f) {
        if (!isFunction(f) || argumentSize == 0) {
            return REFUSED - 1;
        }
        seatArgument();
        return rowFor(f);
    }

    public long count(int f, int row, int size) {
        if (!isFunction(f) || row < NO_ROW || row >= rowCount[f] || size < 1 || size > MOST_SURVEYED) {
            return REFUSED;
        }
        survey(f, size);
        return tally[row + 1];
    }

    public int useless(int f) {
        if (!isFunction(f)) {
            return REFUSED;
        }
        int rows = (1 << rowCount[f]) - 1;
        for (int size = 1; size <= MOST_SURVEYED; size++) {
            survey(f, size);
            for (int row = 0; row < rowCount[f]; row++) {
                if (tally[row + 1] > 0) {
                    rows &= ~(1 << row);
                }
            }
        }
        return rows;
    }

    public int open(int f) {
        return isFunction(f) ? leastOpenSize(f) : REFUSED;
    }

    public int witness(int f, int k) {
        if (!isFunction(f) || k < 0) {
            return REFUSED;
        }
        int size = leastOpenSize(f);
        return k < size ? untaken[k] : REFUSED;
    }

    private static boolean isFunction(int f) {
        return f >= 0 && f < FUNCTIONS;
    }

    private boolean isToken(int kind, int v) {
        switch (kind) {
            case ANY:
            case OR:
            case NOT:
                return true;
            case VAR:
                return v >= 0 && v < VARIABLES;
            case CON:
                return v >= 0 && v < constructorCount;
            case CALL:
                return isFunction(v);
            default:
                return false;
        }
    }

    private int operandsOf(int token) {
        switch (token / TOKEN_BASE) {
            case CON:
                return arityOf[token % TOKEN_BASE];
            case OR:
                return 2;
            case NOT:
            case CALL:
                return 1;
            default:
                return 0;
        }
    }

    // From the last token to the first, as the end of a term is that of its last operand.
    private void measureDraft() {
        for (int at = drafted - 1; at >= 0; at--) {
            int operands = operandsOf(draft[at]);
            int end = at + 1;
            for (int i = 0; i < operands; i++) {
                end = end < drafted ? draftEnd[end] : NO_END;
            }
            draftEnd[at] = end;
        }
    }

    // The set of the variables of the draft's first term, which goes up to end, or NO_PATTERN if it is none.
    private int patternVariables(int end) {
        if (end > drafted || end > MOST_TERM) {
            return NO_PATTERN;
        }
        int seen = 0;
        int closedUntil = 0;
        for (int at = 0; at < end; at++) {
            int kind = draft[at] / TOKEN_BASE;
            if (kind == CALL) {
                return NO_PATTERN;
            }
            if ((kind == OR || kind == NOT) && at >= closedUntil) {
                closedUntil = draftEnd[at];
            }
            if (kind == VAR) {
                int bit = 1 << draft[at] % TOKEN_BASE;
                if (at < closedUntil || (seen & bit) != 0) {
                    return NO_PATTERN;
                }
                seen |= bit;
            }
        }
        return seen;
    }

    private boolean isOutcome(int from, int variables) {
        if (from >= drafted || draftEnd[from] != drafted || drafted - from > MOST_TERM) {
            return false;
        }
        for (int at = from; at < drafted; at++) {
            int kind = draft[at] / TOKEN_BASE;
            if (kind != VAR && kind != CON && kind != CALL) {
                return false;
            }
            if (kind == VAR && (variables & 1 << draft[at] % TOKEN_BASE) == 0) {
                return false;
            }
        }
        return true;
    }

    private void storePattern(int row, int end) {
        int base = row * MOST_TERM;
        for (int at = 0; at < end; at++) {
            pattern[base + at] = draft[at];
            patternEnd[base + at] = draftEnd[at];
        }
        patternLength[row] = end;
    }

    // Each token is written as soon as the walk is past its last operand.
    private void storeOutcome(int row, int from) {
        int base = row * MOST_TERM;
        int written = 0;
        int waiting = 0;
        for (int at = from; at < drafted; at++) {
            unwritten[waiting] = at;
            waiting++;
            while (waiting > 0 && draftEnd[unwritten[waiting - 1]] == at + 1) {
                waiting--;
                outcome[base + written] = draft[unwritten[waiting]];
                written++;
            }
        }
        outcomeLength[row] = written;
    }

    private boolean isDraftValue() {
        for (int at = 0; at < drafted; at++) {
            if (draft[at] / TOKEN_BASE != CON) {
                return false;
            }
        }
        measureDraft();
        return drafted > 0 && draftEnd[0] == drafted;
    }

    // Whether the subject's list is a value.
    private boolean measureSubject() {
        for (int at = subjectSize - 1; at >= 0; at--) {
            int end = at + 1;
            for (int i = 0; i < arityOf[subject[at]]; i++) {
                end = end < subjectSize ? subjectEnd[end] : NO_END;
            }
            subjectEnd[at] = end;
        }
        return subjectSize > 0 && subjectEnd[0] == subjectSize;
    }

    private void seatArgument() {
        subjectSize = argumentSize;
        for (int at = 0; at < argumentSize; at++) {
            subject[at] = argument[at];
        }
        measureSubject();
    }

    private int rowFor(int f) {
        for (int row = 0; row < rowCount[f]; row++) {
            if (matches(f * MOST_ROWS + row)) {
                return row;
            }
        }
        return NO_ROW;
    }

    // Every part of the pattern is tried on every part of the subject, the last ones first: what a part needs to
    // know of its operands is known by then, and nothing has to call itself.
    private boolean matches(int row) {
        for (int part = patternLength[row] - 1; part >= 0; part--) {
            for (int at = subjectSize - 1; at >= 0; at--) {
                fits[part * MOST_SIZE + at] = partFits(row * MOST_TERM, part, at);
            }
        }
        return fits[0];
    }

    private boolean partFits(int base, int part, int at) {
        int token = pattern[base + part];
        int first = (part + 1) * MOST_SIZE;
        switch (token / TOKEN_BASE) {
            case OR:
                return fits[first + at] || fits[patternEnd[base + part + 1] * MOST_SIZE + at];
            case NOT:
                return !fits[first + at];
            case CON:
                int constructor = subject[at];
                if (constructor != token % TOKEN_BASE) {
                    return false;
                }
                int arity = arityOf[constructor];
                if (arity == 0) {
                    return true;
                }
                if (!fits[first + at + 1]) {
                    return false;
                }
                return arity == 1 || fits[patternEnd[base + part + 1] * MOST_SIZE + subjectEnd[at + 1]];
            default:
                return true;
        }
    }

    // The nodes of the argument are numbered as its list is.
    private void startRun() {
        seatArgument();
        for (int at = 0; at < subjectSize; at++) {
            nodeConstructor[at] = subject[at];
            nodeSize[at] = subjectEnd[at] - at;
            nodeFirst[at] = at + 1;
            nodeSecond[at] = arityOf[subject[at]] == 2 ? subjectEnd[at + 1] : 0;
        }
        nodeCount = subjectSize;
        operand[0] = 0;
        operandCount = 1;
        depth = 0;
        runSteps = 0;
        runSize = 0;
        runFunction = NO_FUNCTION;
    }

    // Calls a function with the latest operand.
    private int enter(int f) {
        if (runSteps == MOST_STEPS) {
            runFunction = f;
            return LONG;
        }
        runSteps++;
        operandCount--;
        seatNode(operand[operandCount]);
        int row = rowFor(f);
        if (row == NO_ROW) {
            runFunction = f;
            return STUCK;
        }
        callRow[depth] = f * MOST_ROWS + row;
        callNext[depth] = 0;
        bindVariables(depth);
        depth++;
        return GOING;
    }

    // Sizes tell where each part's list begins, so that a node is always placed before its turn comes.
    private void seatNode(int root) {
        subjectSize = nodeSize[root];
        subjectNode[0] = root;
        for (int at = 0; at < subjectSize; at++) {
            int node = subjectNode[at];
            int arity = arityOf[nodeConstructor[node]];
            subject[at] = nodeConstructor[node];
            subjectEnd[at] = at + nodeSize[node];
            if (arity >= 1) {
                subjectNode[at + 1] = nodeFirst[node];
            }
            if (arity == 2) {
                subjectNode[at + 1 + nodeSize[nodeFirst[node]]] = nodeSecond[node];
            }
        }
    }

    // The pattern matches, so both lists go side by side: a CON against its constructor, each other part (no
    // variable is inside of an OR or NOT) against a whole value.
    private void bindVariables(int call) {
        int row = callRow[call];
        int base = row * MOST_TERM;
        int at = 0;
        int part = 0;
        for (int i = 0; i < MOST_TERM && part < patternLength[row]; i++) {
            int token = pattern[base + part];
            int kind = token / TOKEN_BASE;
            if (kind == VAR) {
                callVariable[call * VARIABLES + token % TOKEN_BASE] = subjectNode[at];
            }
            at = kind == CON ? at + 1 : subjectEnd[at];
            part = kind == CON ? part + 1 : patternEnd[base + part];
        }
    }

    // Takes the next token of the innermost call's result, or comes back from the call after the last one.
    private int workOn() {
        int call = depth - 1;
        int row = callRow[call];
        if (callNext[call] == outcomeLength[row]) {
            depth--;
            return depth == 0 ? OK : GOING;
        }
        int token = outcome[row * MOST_TERM + callNext[call]];
        int v = token % TOKEN_BASE;
        callNext[call]++;
        switch (token / TOKEN_BASE) {
            case CON:
                return build(v, row / MOST_ROWS);
            case CALL:
                return enter(v);
            default:
                operand[operandCount] = callVariable[call * VARIABLES + v];
                operandCount++;
                return GOING;
        }
    }

    // Makes a value of the latest operands; f is the function whose result is worked out.
    private int build(int constructor, int f) {
        int arity = arityOf[constructor];
        int from = operandCount - arity;
        int size = 1;
        for (int i = from; i < operandCount; i++) {
            size += nodeSize[operand[i]];
        }
        if (size > MOST_SIZE) {
            runFunction = f;
            return BIG;
        }
        nodeConstructor[nodeCount] = constructor;
        nodeSize[nodeCount] = size;
        nodeFirst[nodeCount] = arity >= 1 ? operand[from] : 0;
        nodeSecond[nodeCount] = arity == 2 ? operand[from + 1] : 0;
        operand[from] = nodeCount;
        operandCount = from + 1;
        nodeCount++;
        return GOING;
    }

    private void keepOutcome() {
        seatNode(operand[0]);
        runSize = subjectSize;
        for (int at = 0; at < subjectSize; at++) {
            runList[at] = subject[at];
        }
    }

    // Goes through all values of a size, in the order of their lists.
    private void survey(int f, int size) {
        for (int i = 0; i < TALLIES; i++) {
            tally[i] = 0;
        }
        subjectSize = size;
        for (int at = 0; at < size; at++) {
            subject[at] = 0;
        }
        boolean more = constructorCount > 0;
        for (int i = 0; i < MOST_LISTS && more; i++) {
            if (measureSubject()) {
                int row = rowFor(f);
                if (row == NO_ROW && tally[0] == 0) {
                    keepUntaken();
                }
                tally[row + 1]++;
            }
            more = nextList();
        }
    }

    private void keepUntaken() {
        for (int at = 0; at < subjectSize; at++) {
            untaken[at] = subject[at];
        }
    }

    // Makes the subject the next list of its length, if there is one.
    private boolean nextList() {
        for (int at = subjectSize - 1; at >= 0; at--) {
            subject[at]++;
            if (subject[at] < constructorCount) {
                return true;
            }
            subject[at] = 0;
        }
        return false;
    }

    // The value it was found by stays in untaken.
    private int leastOpenSize(int f) {
        for (int size = 1; size <= MOST_SURVEYED; size++) {
            survey(f, size);
            if (tally[0] > 0) {
                return size;
            }
        }
        return 0;
    }
}
