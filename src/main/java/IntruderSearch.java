/** Looks for attacks on the secrecy of a small protocol under an intruder who controls the network. */
public final class IntruderSearch {
    public static final int ATOM = 1;
    public static final int VAR = 2;
    public static final int PAIR = 3;
    public static final int SENC = 4;
    public static final int AENC = 5;

    public static final int FIELD_KIND = 0;
    public static final int FIELD_FIRST = 1;
    public static final int FIELD_SECOND = 2;
    public static final int FIELD_SIZE = 3;

    public static final int NOT_SEARCHED = 0;
    public static final int SAFE = 1;
    public static final int ATTACK = 2;
    public static final int NO_SECRET = 3;

    public static final int MAX_CELLS = 64;
    public static final int MAX_ATOMS = 8;
    public static final int MAX_VARS = 3;
    public static final int MAX_SIZE = 32;
    public static final int MAX_KNOWN = 8;
    public static final int THREADS = 3;
    public static final int MAX_STEPS = 6;

    private static final int NONE = -1;
    private static final int STEP_SLOTS = THREADS * MAX_STEPS;

    // One digit for each variable, the least-numbered one first, so that counting up
    // goes through the assignments in the order that attacks are compared by.
    private static final int ASSIGNMENTS = MAX_ATOMS * MAX_ATOMS * MAX_ATOMS;

    // A position tells how many steps each thread has done, one digit for each thread.
    // What the intruder knows depends on these counts alone, not on the order of the steps.
    private static final int POSITION_BASE = MAX_STEPS + 1;
    private static final int POSITIONS = POSITION_BASE * POSITION_BASE * POSITION_BASE;

    // More steps than any schedule has.
    private static final int NEVER = MAX_STEPS + 1;

    private final int[] kinds = new int[MAX_CELLS];
    private final int[] firsts = new int[MAX_CELLS];
    private final int[] seconds = new int[MAX_CELLS];
    private final int[] sizes = new int[MAX_CELLS];
    private final boolean[] grounds = new boolean[MAX_CELLS];
    private int cellCount = 0;

    private final int[] atomCells = new int[MAX_ATOMS];
    private int atomCount = 0;
    private final int[] variableCells = new int[MAX_VARS];

    private final int[] learned = new int[MAX_KNOWN];
    private int learnedCount = 0;

    private final int[] stepTerms = new int[STEP_SLOTS];
    private final boolean[] stepSends = new boolean[STEP_SLOTS];
    private final int[] stepCounts = new int[THREADS];
    private int stepTotal = 0;

    private int secretTerm = NONE;

    private int currentStatus = NOT_SEARCHED;
    private int attackLength = NONE;
    private final int[] attackThreads = new int[MAX_STEPS];
    private final int[] attackAtoms = new int[MAX_VARS];

    // The fields from here on are working space: no answer depends on what an earlier call left in them.
    private final int[] chosenAtoms = new int[MAX_VARS];
    private final int[] twins = new int[MAX_CELLS];
    private final int[] doneSteps = new int[THREADS];
    private final int[] stepsToGo = new int[POSITIONS];
    private final int[] nextThreads = new int[POSITIONS];
    private final int[] foundThreads = new int[MAX_STEPS];

    public IntruderSearch() {
        for (int v = 0; v < MAX_VARS; v++) {
            variableCells[v] = NONE;
        }
    }

    public int atom(boolean compromised) {
        if (atomCount >= MAX_ATOMS || cellCount >= MAX_CELLS) {
            return NONE;
        }
        int t = makeCell(ATOM, atomCount, compromised ? 1 : 0, 1, true);
        atomCells[atomCount] = t;
        atomCount++;
        reset();
        return t;
    }

    public int variable(int v) {
        if (v < 0 || v >= MAX_VARS) {
            return NONE;
        }
        if (variableCells[v] != NONE) {
            return variableCells[v];
        }
        if (cellCount >= MAX_CELLS) {
            return NONE;
        }
        int t = makeCell(VAR, v, 0, 1, false);
        variableCells[v] = t;
        reset();
        return t;
    }

    public int compose(int op, int a, int b) {
        if (op != PAIR && op != SENC && op != AENC) {
            return NONE;
        }
        if (!isCell(a) || !isCell(b)) {
            return NONE;
        }
        int size = 1 + sizes[a] + sizes[b];
        if (size > MAX_SIZE) {
            return NONE;
        }
        int made = findCell(op, a, b);
        if (made != NONE) {
            return made;
        }
        if (cellCount >= MAX_CELLS) {
            return NONE;
        }
        return makeCell(op, a, b, size, grounds[a] && grounds[b]);
    }

    public int cell(int t, int field) {
        if (!isCell(t)) {
            return NONE;
        }
        switch (field) {
            case FIELD_KIND:
                return kinds[t];
            case FIELD_FIRST:
                return firsts[t];
            case FIELD_SECOND:
                return seconds[t];
            case FIELD_SIZE:
                return sizes[t];
            default:
                return NONE;
        }
    }

    public boolean learn(int t) {
        if (!isCell(t) || !grounds[t] || learnedCount >= MAX_KNOWN) {
            return false;
        }
        learned[learnedCount] = t;
        learnedCount++;
        reset();
        return true;
    }

    public int known(int i) {
        return i >= 0 && i < learnedCount ? learned[i] : NONE;
    }

    public boolean derivable(int t) {
        if (!isCell(t) || !grounds[t]) {
            return false;
        }
        keepCellsApart();
        long start = withLearned();
        long derived = closure(start);
        return holds(derived, t);
    }

    public boolean addStep(int thread, boolean send, int t) {
        if (!isThread(thread) || !isCell(t) || stepTotal >= MAX_STEPS) {
            return false;
        }
        int slot = thread * MAX_STEPS + stepCounts[thread];
        stepTerms[slot] = t;
        stepSends[slot] = send;
        stepCounts[thread]++;
        stepTotal++;
        reset();
        return true;
    }

    public int step(int thread, int index) {
        if (!isThread(thread) || index < 0 || index >= stepCounts[thread]) {
            return NONE;
        }
        int slot = thread * MAX_STEPS + index;
        return 2 * stepTerms[slot] + (stepSends[slot] ? 1 : 0);
    }

    public boolean setSecret(int t) {
        if (!isCell(t)) {
            return false;
        }
        secretTerm = t;
        reset();
        return true;
    }

    public int secret() {
        return secretTerm;
    }

    public int search() {
        if (secretTerm == NONE) {
            return NO_SECRET;
        }
        reset();
        for (int code = 0; code < ASSIGNMENTS; code++) {
            if (chooseAtoms(code)) {
                searchUnderAssignment();
            }
        }
        currentStatus = attackLength == NONE ? SAFE : ATTACK;
        return currentStatus;
    }

    public int status() {
        return currentStatus;
    }

    public int traceLength() {
        return currentStatus == ATTACK ? attackLength : NONE;
    }

    public int traceThread(int i) {
        if (currentStatus != ATTACK || i < 0 || i >= attackLength) {
            return NONE;
        }
        return attackThreads[i];
    }

    public int value(int v) {
        if (currentStatus != ATTACK || v < 0 || v >= MAX_VARS || variableCells[v] == NONE) {
            return NONE;
        }
        return attackAtoms[v];
    }

    private boolean isCell(int t) {
        return t >= 0 && t < cellCount;
    }

    private static boolean isThread(int thread) {
        return thread >= 0 && thread < THREADS;
    }

    private int makeCell(int kind, int first, int second, int size, boolean ground) {
        int t = cellCount;
        kinds[t] = kind;
        firsts[t] = first;
        seconds[t] = second;
        sizes[t] = size;
        grounds[t] = ground;
        cellCount++;
        return t;
    }

    private int findCell(int op, int a, int b) {
        for (int t = 0; t < cellCount; t++) {
            if (kinds[t] == op && firsts[t] == a && seconds[t] == b) {
                return t;
            }
        }
        return NONE;
    }

    private void reset() {
        currentStatus = NOT_SEARCHED;
        attackLength = NONE;
    }

    /** False where the number stands for no assignment: there may be fewer atoms or variables than it has room for. */
    private boolean chooseAtoms(int code) {
        int rest = code;
        for (int v = MAX_VARS - 1; v >= 0; v--) {
            int digit = rest % MAX_ATOMS;
            rest = rest / MAX_ATOMS;
            // An undeclared variable keeps the digit 0, so that each assignment has one number only.
            int choices = variableCells[v] == NONE ? 1 : atomCount;
            if (digit >= choices) {
                return false;
            }
            chosenAtoms[v] = digit;
        }
        return true;
    }

    private void searchUnderAssignment() {
        joinEqualCells();
        // Every step leads to a position with a greater number, so the later ones are measured first.
        for (int position = POSITIONS - 1; position >= 0; position--) {
            measurePosition(position);
        }
        if (stepsToGo[0] == NEVER) {
            return;
        }
        followSchedule();
        // On a tie the attack held stays: its assignment came earlier.
        if (foundComesFirst()) {
            keepFound();
        }
    }

    /** One twin stands for all cells that the assignment makes equal, so that no trees need be compared after this. */
    private void joinEqualCells() {
        for (int t = 0; t < cellCount; t++) {
            switch (kinds[t]) {
                case ATOM:
                    twins[t] = t;
                    break;
                case VAR:
                    twins[t] = atomCells[chosenAtoms[firsts[t]]];
                    break;
                default:
                    twins[t] = firstEqualCell(t);
                    break;
            }
        }
    }

    /** Ground terms need no joining: distinct cells are distinct trees. A variable is never derived here. */
    private void keepCellsApart() {
        for (int t = 0; t < cellCount; t++) {
            twins[t] = t;
        }
    }

    private int firstEqualCell(int t) {
        for (int u = 0; u < t; u++) {
            if (kinds[u] == kinds[t]
                    && twins[firsts[u]] == twins[firsts[t]]
                    && twins[seconds[u]] == twins[seconds[t]]) {
                return u;
            }
        }
        return t;
    }

    /** The least attack takes the fewest steps, and of these the least thread at each: later positions tell both. */
    private void measurePosition(int position) {
        stepsToGo[position] = NEVER;
        if (!readPosition(position)) {
            return;
        }
        long start = withSent();
        long derived = closure(start);
        if (holds(derived, secretTerm)) {
            stepsToGo[position] = 0;
            return;
        }
        for (int thread = 0; thread < THREADS; thread++) {
            if (canStep(thread, derived)) {
                int after = position + weight(thread);
                if (stepsToGo[after] + 1 < stepsToGo[position]) {
                    stepsToGo[position] = stepsToGo[after] + 1;
                    nextThreads[position] = thread;
                }
            }
        }
    }

    /** False where the position cannot come up: a thread has fewer steps than its digit says. */
    private boolean readPosition(int position) {
        int rest = position;
        for (int thread = THREADS - 1; thread >= 0; thread--) {
            doneSteps[thread] = rest % POSITION_BASE;
            rest = rest / POSITION_BASE;
            if (doneSteps[thread] > stepCounts[thread]) {
                return false;
            }
        }
        return true;
    }

    private static int weight(int thread) {
        switch (thread) {
            case 0:
                return POSITION_BASE * POSITION_BASE;
            case 1:
                return POSITION_BASE;
            default:
                return 1;
        }
    }

    private boolean canStep(int thread, long derived) {
        if (doneSteps[thread] >= stepCounts[thread]) {
            return false;
        }
        int slot = thread * MAX_STEPS + doneSteps[thread];
        return stepSends[slot] || holds(derived, stepTerms[slot]);
    }

    private void followSchedule() {
        int position = 0;
        for (int i = 0; i < stepsToGo[0]; i++) {
            foundThreads[i] = nextThreads[position];
            position += weight(foundThreads[i]);
        }
    }

    private boolean foundComesFirst() {
        int length = stepsToGo[0];
        if (length != attackLength) {
            return attackLength == NONE || length < attackLength;
        }
        for (int i = 0; i < length; i++) {
            if (foundThreads[i] != attackThreads[i]) {
                return foundThreads[i] < attackThreads[i];
            }
        }
        return false;
    }

    private void keepFound() {
        attackLength = stepsToGo[0];
        for (int i = 0; i < attackLength; i++) {
            attackThreads[i] = foundThreads[i];
        }
        for (int v = 0; v < MAX_VARS; v++) {
            attackAtoms[v] = atomCells[chosenAtoms[v]];
        }
    }

    // A set of terms is a long with one bit for each twin: there are as many bits as cells.

    private boolean holds(long terms, int t) {
        return (terms >>> twins[t] & 1L) != 0L;
    }

    private long withLearned() {
        long terms = 0L;
        for (int i = 0; i < learnedCount; i++) {
            terms |= 1L << twins[learned[i]];
        }
        return terms;
    }

    private long withSent() {
        long terms = withLearned();
        for (int thread = 0; thread < THREADS; thread++) {
            for (int index = 0; index < doneSteps[thread]; index++) {
                int slot = thread * MAX_STEPS + index;
                if (stepSends[slot]) {
                    terms |= 1L << twins[stepTerms[slot]];
                }
            }
        }
        return terms;
    }

    /**
     * Derives all it can among the cells. That misses nothing: what is composed need not be taken apart
     * again, so a derivation can keep to the parts of its start and its goal, and all of these are cells.
     */
    private long closure(long start) {
        long derived = start;
        boolean grew = true;
        // Each round but the last adds a cell, so that there are never more rounds than this.
        for (int round = 0; grew && round < MAX_CELLS; round++) {
            long before = derived;
            for (int t = 0; t < cellCount; t++) {
                if (kinds[t] >= PAIR) {
                    derived |= derivedAt(t, derived);
                }
            }
            grew = derived != before;
        }
        return derived;
    }

    /** What is held need not be built and what is not held cannot be opened, so only one of the two is tried. */
    private long derivedAt(int t, long derived) {
        long whole = 1L << twins[t];
        long first = 1L << twins[firsts[t]];
        long second = 1L << twins[seconds[t]];
        boolean hasSecond = (derived & second) != 0L;
        if ((derived & whole) == 0L) {
            boolean hasFirst = (derived & first) != 0L;
            return hasFirst && hasSecond ? whole : 0L;
        }
        switch (kinds[t]) {
            case PAIR:
                return first | second;
            case SENC:
                return hasSecond ? first : 0L;
            default:
                return isCompromised(twins[seconds[t]]) ? first : 0L;
        }
    }

    private boolean isCompromised(int t) {
        return kinds[t] == ATOM && seconds[t] == 1;
    }
}
